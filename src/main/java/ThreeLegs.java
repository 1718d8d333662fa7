/** People tied by twos at the ankle: how their pairs run, where they lurch and where they fall. */
public final class ThreeLegs {
    public static final int UNKNOWN = -1, OUTSIDE = -2, STATE = -3, FULL = -4, NO = -5, NONE = -6;

    private static final int FINE = 0;
    private static final int PEOPLE = 8;
    private static final int IMAGES = 2;
    private static final int MOST_STEPS = 999;
    private static final int MOST_FEET = 999;
    private static final int LEAST_BEAT = 4;
    private static final int MOST_BEAT = 20;
    private static final int MOST_LENGTH = 9;
    private static final int MOST_GIVE = 4;
    private static final int MOST_LURCH = 9;
    private static final int MOST_FALL = 20;
    private static final int MOST_UP = 99;
    private static final int LAST_QUICKENING = 60;
    private static final int NEVER = -1;
    private static final int COST_OF_NOT_REACHING = 100000;
    private static final int MOST_TIME = 9999;
    private static final int MOST_SEED = 9999;
    private static final int MOST_RACES = 99;
    private static final int MOST_SIGNS = 40;
    private static final int LEAST_SIGN = 33;
    private static final int MOST_SIGN = 126;
    private static final char COME_ON = 's';
    private static final char LURCHING = 'l';
    private static final char FALLING = 'f';
    private static final char UNSEEN = '?';

    private final Crowd crowd = new Crowd();
    private final Crowd[] images = new Crowd[] {new Crowd(), new Crowd()};
    private final boolean[] isKept = new boolean[IMAGES];
    private final Film film = new Film();
    private final Walk walk = new Walk();
    private final Knots knots = new Knots();
    private final Soonest soonest = new Soonest();
    /** The TIME to REACH of each two, at 8 times the one and the other; filled anew by each call that reads it. */
    private final int[] times = new int[PEOPLE * PEOPLE];

    public ThreeLegs() {
    }

    // ---- 1 people

    public int run(int person, int beat, int length, int give) {
        if (!isWithin(person, 0, PEOPLE - 1)) {
            return UNKNOWN;
        }
        if (!isWithin(beat, LEAST_BEAT, MOST_BEAT) || !isWithin(length, 1, MOST_LENGTH)
                || !isWithin(give, 0, MOST_GIVE)) {
            return OUTSIDE;
        }
        crowd.enter(person, beat, length, give);
        return crowd.count();
    }

    public int rest(int person) {
        if (!crowd.hasRunner(person)) {
            return UNKNOWN;
        }
        crowd.leave(person);
        return crowd.count();
    }

    public int set(int which, int v) {
        switch (which) {
            case 0:
                return setLurch(v);
            case 1:
                return setFall(v);
            case 2:
                return setUp(v);
            default:
                return OUTSIDE;
        }
    }

    private int setLurch(int v) {
        if (!isWithin(v, 0, MOST_LURCH) || v > crowd.fall) {
            return OUTSIDE;
        }
        int was = crowd.lurch;
        crowd.lurch = v;
        return was;
    }

    private int setFall(int v) {
        if (!isWithin(v, crowd.lurch, MOST_FALL)) {
            return OUTSIDE;
        }
        int was = crowd.fall;
        crowd.fall = v;
        return was;
    }

    private int setUp(int v) {
        if (!isWithin(v, 0, MOST_UP)) {
            return OUTSIDE;
        }
        int was = crowd.up;
        crowd.up = v;
        return was;
    }

    // ---- 2 pairs

    public int pair(int person, int other, int n, int what) {
        if (!crowd.canTie(person, other)) {
            return UNKNOWN;
        }
        if (!isWithin(n, 0, MOST_STEPS) || !isWithin(what, 0, 4)) {
            return OUTSIDE;
        }
        walk.tie(crowd, person, other);
        for (int i = 0; i < n; i++) {
            walk.step();
        }
        switch (what) {
            case 0:
                return walk.time();
            case 1:
                return walk.feet;
            case 2:
                return walk.lurches;
            case 3:
                return walk.falls;
            default:
                return walk.apart();
        }
    }

    public int reach(int person, int other, int feet, int what) {
        int refusal = refusalOfRace(person, other, feet, what);
        if (refusal != FINE) {
            return refusal;
        }
        int time = timeTo(person, other, feet);
        if (time == NONE) {
            return NONE;
        }
        return what == 0 ? walk.steps - 1 : time;
    }

    public int who(int person, int other, int what) {
        if (!crowd.canTie(person, other)) {
            return UNKNOWN;
        }
        if (!isWithin(what, 0, 1)) {
            return OUTSIDE;
        }
        walk.tie(crowd, person, other);
        if (walk.standsFor(MOST_STEPS)) {
            return NONE;
        }
        if (what == 0) {
            return walk.steps - 1;
        }
        return walk.firstWasEarlier ? person : other;
    }

    public int alone(int person, int feet) {
        if (!crowd.hasRunner(person)) {
            return UNKNOWN;
        }
        if (!isFeet(feet)) {
            return OUTSIDE;
        }
        int time = 0;
        int made = 0;
        for (int i = 0; i < MOST_FEET && made < feet; i++) {
            made += crowd.length[person];
            time += crowd.beat[person];
        }
        return time;
    }

    // ---- 3 whom with whom, how

    public int tied(int feet, int by, int person) {
        int people = crowd.count();
        if (people == 0 || people % 2 != 0) {
            return STATE;
        }
        if (person != -1 && !crowd.hasRunner(person)) {
            return UNKNOWN;
        }
        if (!isFeet(feet) || !isWithin(by, 0, 1)) {
            return OUTSIDE;
        }
        timeAllPairs(feet);
        knots.seek(crowd, times, by == 1);
        return person == -1 ? knots.least : knots.bestMate[person];
    }

    public int call(int person, int other, int feet, int what) {
        int refusal = refusalOfRace(person, other, feet, what);
        if (refusal != FINE) {
            return refusal;
        }
        soonest.clear();
        for (int beat = LEAST_BEAT; beat <= MOST_BEAT; beat++) {
            walk.tie(crowd, person, other);
            walk.beatBoth(beat);
            soonest.offer(beat, walk.timeTo(feet, NEVER));
        }
        return soonest.answer(what);
    }

    public int quicken(int person, int other, int feet, int what) {
        int refusal = refusalOfRace(person, other, feet, what);
        if (refusal != FINE) {
            return refusal;
        }
        soonest.clear();
        for (int k = 0; k <= LAST_QUICKENING; k++) {
            walk.tie(crowd, person, other);
            soonest.offer(k, walk.timeTo(feet, k));
        }
        soonest.offer(LAST_QUICKENING + 1, timeTo(person, other, feet));
        return soonest.answer(what);
    }

    public int yields(int person, int other, int feet, int what) {
        int refusal = refusalOfRace(person, other, feet, what);
        if (refusal != FINE) {
            return refusal;
        }
        soonest.clear();
        for (int first = 0; first <= MOST_GIVE; first++) {
            for (int second = 0; second <= MOST_GIVE; second++) {
                walk.tie(crowd, person, other);
                walk.give(first, second);
                soonest.offer(10 * first + second, walk.timeTo(feet, NEVER));
            }
        }
        return soonest.answer(what);
    }

    public int practice(int person, int other, int n, int what) {
        if (!crowd.canTie(person, other)) {
            return UNKNOWN;
        }
        if (!isWithin(n, 0, MOST_STEPS) || !isWithin(what, 0, 1)) {
            return OUTSIDE;
        }
        int had = crowd.give[person] + crowd.give[other];
        int least = NONE;
        int gives = NONE;
        for (int first = crowd.give[person]; first <= MOST_GIVE; first++) {
            for (int second = crowd.give[other]; second <= MOST_GIVE; second++) {
                int sum = first + second - had;
                if ((least == NONE || sum < least) && standsWith(person, other, first, second, n)) {
                    least = sum;
                    gives = 10 * first + second;
                }
            }
        }
        return what == 0 ? least : gives;
    }

    private boolean standsWith(int person, int other, int first, int second, int n) {
        walk.tie(crowd, person, other);
        walk.give(first, second);
        return walk.standsFor(n);
    }

    public int scarf(int person, int other, int feet, int time) {
        if (!crowd.canTie(person, other)) {
            return UNKNOWN;
        }
        if (!isFeet(feet) || !isWithin(time, 0, MOST_TIME)) {
            return OUTSIDE;
        }
        for (int lurch = 0; lurch <= crowd.fall; lurch++) {
            walk.tie(crowd, person, other);
            walk.lurch = lurch;
            int there = walk.timeTo(feet, NEVER);
            if (there != NONE && there <= time) {
                return lurch;
            }
        }
        return NONE;
    }

    public int even(int a, int b, int c, int d, int feet) {
        if (!crowd.canTie(a, b) || !crowd.canTie(c, d)) {
            return UNKNOWN;
        }
        if (!isFeet(feet)) {
            return OUTSIDE;
        }
        int limit = timeTo(c, d, feet);
        if (limit == NONE) {
            return NONE;
        }
        walk.tie(crowd, a, b);
        // The later of both TIMES grows with each STEP, so what they make within the limit is all they can be given.
        return Math.max(0, feet - walk.feetWithin(limit));
    }

    // ---- 4 films, years

    public int say(int sign) {
        if (!isWithin(sign, LEAST_SIGN, MOST_SIGN)) {
            return OUTSIDE;
        }
        if (film.count >= MOST_SIGNS) {
            return FULL;
        }
        film.add(sign);
        return film.count;
    }

    public int wipe() {
        int was = film.count;
        film.count = 0;
        return was;
    }

    public int fault() {
        return film.firstFault();
    }

    public int judge(int person, int other) {
        if (!crowd.canTie(person, other)) {
            return UNKNOWN;
        }
        if (film.firstFault() != NONE) {
            return NO;
        }
        return firstUnlike(person, other);
    }

    public int fits(int i) {
        if (film.firstFault() != NONE) {
            return NO;
        }
        int found = 0;
        for (int a = 0; a < PEOPLE; a++) {
            for (int b = a + 1; b < PEOPLE; b++) {
                if (crowd.canTie(a, b) && firstUnlike(a, b) == NONE) {
                    if (found == i) {
                        return 10 * a + b;
                    }
                    found++;
                }
            }
        }
        return i == -1 ? found : NONE;
    }

    public int year(int seed, int n, int feet, int of) {
        if (!isWithin(seed, 0, MOST_SEED) || !isWithin(n, 1, MOST_RACES) || !isFeet(feet)
                || !isWithin(of, -1, PEOPLE)) {
            return OUTSIDE;
        }
        timeAllPairs(feet);
        soonest.clear();
        int races = 0;
        int arrivals = 0;
        int x = seed;
        for (int i = 0; i < n; i++) {
            x = (75 * x + 74) % 65537;
            int a = x % PEOPLE;
            int b = x / PEOPLE % PEOPLE;
            if (crowd.canTie(a, b)) {
                int time = times[PEOPLE * a + b];
                races++;
                arrivals += time != NONE && (a == of || b == of) ? 1 : 0;
                soonest.offer(i, time);
            }
        }
        if (of == -1) {
            return races;
        }
        return of == PEOPLE ? soonest.time : arrivals;
    }

    public int image(int n) {
        if (!isWithin(n, 0, IMAGES - 1)) {
            return OUTSIDE;
        }
        images[n].copyFrom(crowd);
        isKept[n] = true;
        return 1;
    }

    public int restore(int n) {
        if (!isWithin(n, 0, IMAGES - 1)) {
            return OUTSIDE;
        }
        if (!isKept[n]) {
            return STATE;
        }
        crowd.copyFrom(images[n]);
        return 1;
    }

    public int told(int what) {
        switch (what) {
            case 0:
                return film.count;
            case 1:
                return crowd.bits();
            case 2:
                return crowd.lurch;
            case 3:
                return crowd.fall;
            case 4:
                return crowd.up;
            default:
                return toldOfPerson(what / 10 - 1, what % 10);
        }
    }

    private int toldOfPerson(int person, int which) {
        if (!crowd.hasRunner(person)) {
            return OUTSIDE;
        }
        switch (which) {
            case 0:
                return crowd.beat[person];
            case 1:
                return crowd.length[person];
            case 2:
                return crowd.give[person];
            default:
                return OUTSIDE;
        }
    }

    // ---- what several of them need

    private static boolean isWithin(int v, int least, int most) {
        return v >= least && v <= most;
    }

    private static boolean isFeet(int feet) {
        return isWithin(feet, 1, MOST_FEET);
    }

    private int refusalOfRace(int person, int other, int feet, int what) {
        if (!crowd.canTie(person, other)) {
            return UNKNOWN;
        }
        return isFeet(feet) && isWithin(what, 0, 1) ? FINE : OUTSIDE;
    }

    private int timeTo(int person, int other, int feet) {
        walk.tie(crowd, person, other);
        return walk.timeTo(feet, NEVER);
    }

    private void timeAllPairs(int feet) {
        for (int a = 0; a < PEOPLE; a++) {
            for (int b = a + 1; b < PEOPLE; b++) {
                int time = crowd.canTie(a, b) ? timeTo(a, b, feet) : NONE;
                times[PEOPLE * a + b] = time;
                times[PEOPLE * b + a] = time;
            }
        }
    }

    private int firstUnlike(int person, int other) {
        walk.tie(crowd, person, other);
        for (int i = 0; i < film.count; i++) {
            walk.step();
            if (!film.canShow(i, walk.sign)) {
                return i;
            }
        }
        return NONE;
    }

    /** Who runs, and what holds for all: all that an IMAGE keeps. */
    private static final class Crowd {
        final boolean[] runs = new boolean[PEOPLE];
        final int[] beat = new int[PEOPLE];
        final int[] length = new int[PEOPLE];
        final int[] give = new int[PEOPLE];
        int lurch = 2;
        int fall = 5;
        int up = 90;

        boolean hasRunner(int person) {
            return person >= 0 && person < PEOPLE && runs[person];
        }

        boolean canTie(int person, int other) {
            return person != other && hasRunner(person) && hasRunner(other);
        }

        void enter(int person, int itsBeat, int itsLength, int itsGive) {
            if (person >= 0 && person < PEOPLE) {
                runs[person] = true;
                beat[person] = itsBeat;
                length[person] = itsLength;
                give[person] = itsGive;
            }
        }

        void leave(int person) {
            if (hasRunner(person)) {
                runs[person] = false;
            }
        }

        int count() {
            return Integer.bitCount(bits());
        }

        int bits() {
            int bits = 0;
            for (int i = 0; i < PEOPLE; i++) {
                bits |= runs[i] ? 1 << i : 0;
            }
            return bits;
        }

        void copyFrom(Crowd from) {
            for (int i = 0; i < PEOPLE; i++) {
                runs[i] = from.runs[i];
                beat[i] = from.beat[i];
                length[i] = from.length[i];
                give[i] = from.give[i];
            }
            lurch = from.lurch;
            fall = from.fall;
            up = from.up;
        }
    }

    /** A PAIR on its way, STEP by STEP; its beats, GIVES and LURCH may be changed for a trial once it is tied. */
    private static final class Walk {
        private int firstBeat;
        private int otherBeat;
        private int firstGive;
        private int otherGive;
        private int stride;
        int lurch;
        private int fall;
        private int up;
        private int firstTime;
        private int otherTime;
        int steps;
        int feet;
        int lurches;
        int falls;
        char sign;
        boolean firstWasEarlier;

        /** Both must run in the crowd. */
        void tie(Crowd crowd, int first, int other) {
            if (!crowd.canTie(first, other)) {
                return;
            }
            firstBeat = crowd.beat[first];
            otherBeat = crowd.beat[other];
            firstGive = crowd.give[first];
            otherGive = crowd.give[other];
            stride = Math.min(crowd.length[first], crowd.length[other]);
            lurch = crowd.lurch;
            fall = crowd.fall;
            up = crowd.up;
            firstTime = 0;
            otherTime = 0;
            steps = 0;
            feet = 0;
            lurches = 0;
            falls = 0;
        }

        void beatBoth(int beat) {
            firstBeat = beat;
            otherBeat = beat;
        }

        void give(int first, int other) {
            firstGive = first;
            otherGive = other;
        }

        private void speedUp() {
            firstBeat = Math.max(LEAST_BEAT, firstBeat - 1);
            otherBeat = Math.max(LEAST_BEAT, otherBeat - 1);
        }

        int time() {
            return Math.max(firstTime, otherTime);
        }

        int apart() {
            return Math.abs(firstTime - otherTime);
        }

        void step() {
            int first = firstTime + Math.max(1, firstBeat + firstGive * (otherTime - firstTime) / 4);
            int other = otherTime + Math.max(1, otherBeat + otherGive * (firstTime - otherTime) / 4);
            firstTime = first;
            otherTime = other;
            firstWasEarlier = first < other;
            steps++;
            if (apart() > fall) {
                falls++;
                sign = FALLING;
                firstTime = Math.max(first, other) + up;
                otherTime = firstTime;
            } else if (apart() > lurch) {
                lurches++;
                sign = LURCHING;
            } else {
                feet += stride;
                sign = COME_ON;
            }
        }

        /** The TIME at which they are so far, the beats being a tenth less from STEP quickAt on; or NONE. */
        int timeTo(int goal, int quickAt) {
            for (int i = 0; i < MOST_STEPS; i++) {
                if (i == quickAt) {
                    speedUp();
                }
                step();
                if (feet >= goal) {
                    return time();
                }
            }
            return NONE;
        }

        /** Whether they make so many STEPS without a fall; if not, they stay at the first one. */
        boolean standsFor(int n) {
            for (int i = 0; i < n; i++) {
                step();
                if (falls > 0) {
                    return false;
                }
            }
            return true;
        }

        int feetWithin(int limit) {
            for (int i = 0; i < MOST_STEPS; i++) {
                int made = feet;
                step();
                if (time() > limit) {
                    return made;
                }
            }
            return feet;
        }
    }

    /** The best of several trials: of the soonest ones the first that was offered. */
    private static final class Soonest {
        int time = NONE;
        private int key = NONE;

        void clear() {
            time = NONE;
            key = NONE;
        }

        void offer(int itsKey, int itsTime) {
            if (itsTime != NONE && (time == NONE || itsTime < time)) {
                time = itsTime;
                key = itsKey;
            }
        }

        int answer(int what) {
            return what == 0 ? key : time;
        }
    }

    /** All ways to tie a crowd by twos, in the order that the document ranks equal ones by. */
    private static final class Knots {
        private static final int TWOS = PEOPLE / 2;
        private static final int MOST_WAYS = 105;
        private static final int ABOVE_ALL_COSTS = TWOS * COST_OF_NOT_REACHING + 1;

        /** Of each two, which one of those still free its least PERSON takes, counted from 1. */
        private final int[] picks = new int[TWOS];
        private final int[] free = new int[PEOPLE];
        private final int[] mate = new int[PEOPLE];
        final int[] bestMate = new int[PEOPLE];
        private int people;
        int least;

        void seek(Crowd crowd, int[] times, boolean byWorst) {
            people = crowd.count();
            for (int k = 0; k < TWOS; k++) {
                picks[k] = 1;
            }
            least = ABOVE_ALL_COSTS;
            boolean more = true;
            for (int i = 0; i < MOST_WAYS && more; i++) {
                int cost = costOfPicks(crowd, times, byWorst);
                if (cost < least) {
                    least = cost;
                    System.arraycopy(mate, 0, bestMate, 0, PEOPLE);
                }
                more = goToNextPicks();
            }
        }

        private boolean goToNextPicks() {
            for (int k = people / 2 - 1; k >= 0; k--) {
                if (picks[k] < people - 2 * k - 1) {
                    picks[k]++;
                    return true;
                }
                picks[k] = 1;
            }
            return false;
        }

        private int costOfPicks(Crowd crowd, int[] times, boolean byWorst) {
            int left = lineUp(crowd);
            int cost = 0;
            for (int k = 0; k < TWOS && picks[k] < left; k++) {
                int a = free[0];
                int b = free[picks[k]];
                mate[a] = b;
                mate[b] = a;
                int time = times[PEOPLE * a + b];
                int itsCost = time == NONE ? COST_OF_NOT_REACHING : time;
                cost = byWorst ? Math.max(cost, itsCost) : cost + itsCost;
                takeOut(picks[k], left);
                takeOut(0, left - 1);
                left -= 2;
            }
            return cost;
        }

        private int lineUp(Crowd crowd) {
            int left = 0;
            for (int i = 0; i < PEOPLE; i++) {
                if (crowd.hasRunner(i)) {
                    free[left] = i;
                    left++;
                }
            }
            return left;
        }

        private void takeOut(int at, int left) {
            for (int i = at; i < left - 1; i++) {
                free[i] = free[i + 1];
            }
        }
    }

    /** The PAD with its signs. */
    private static final class Film {
        private final int[] signs = new int[MOST_SIGNS];
        int count;

        void add(int sign) {
            if (count < MOST_SIGNS) {
                signs[count] = sign;
                count++;
            }
        }

        int firstFault() {
            for (int i = 0; i < count; i++) {
                int sign = signs[i];
                if (sign != COME_ON && sign != LURCHING && sign != FALLING && sign != UNSEEN) {
                    return i;
                }
            }
            return NONE;
        }

        boolean canShow(int at, char sign) {
            return at >= 0 && at < count && (signs[at] == sign || signs[at] == UNSEEN);
        }
    }
}

import java.util.ArrayList;
import java.util.Arrays;
import java.util.List;

/**
 * Each number of each call: the last values that are taken and the first that are refused on both sides, what the
 * refused call answers, which of two refusals stands first, and that a refused call leaves everything as it was.
 */
public final class RefusalTest {
    private static final int UNKNOWN = -1, OUTSIDE = -2, STATE = -3, FULL = -4, NO = -5, NONE = -6;
    private static final int MIN = Integer.MIN_VALUE, MAX = Integer.MAX_VALUE;

    /** Of the people in each world: two who run, one who never did, one who does no more. */
    private static final int A = 0, LAST = 7, STRANGER = 3, RESTING = 5;

    private static int wrong = 0;
    private static int looked = 0;

    private interface World {
        ThreeLegs make();
    }

    private interface Ask {
        int of(ThreeLegs x, int[] v);
    }

    /** One number of a call: what is taken, what is not, and how that is refused. */
    private static final class Number {
        final int refusal;
        final int[] taken;
        final int[] refused;

        Number(int refusal, int[] taken, int[] refused) {
            this.refusal = refusal;
            this.taken = taken;
            this.refused = refused;
        }
    }

    private static Number range(int least, int most) {
        return new Number(OUTSIDE, new int[] {least, most}, new int[] {least - 1, most + 1, MIN, MAX});
    }

    private static Number runner(int one) {
        return new Number(UNKNOWN, new int[] {one}, new int[] {-1, 8, STRANGER, RESTING, MIN, MAX});
    }

    private static Number any() {
        return new Number(UNKNOWN, new int[] {0, 7, STRANGER, RESTING}, new int[] {-1, 8, MIN, MAX});
    }

    private static Number mateOrMinusOne() {
        return new Number(UNKNOWN, new int[] {-1, 0, 7}, new int[] {-2, 8, STRANGER, RESTING, MIN, MAX});
    }

    public static void main(String[] args) {
        people();
        pairs();
        whomWithWhom();
        films();
        bothAreOne();
        oddNumbers();
        fullPad();
        faultyFilm();
        notKept();
        nobodyToTell();
        System.out.println(wrong == 0 ? looked + " calls at the edges are as due" : wrong + " are not as due");
        if (wrong != 0) {
            System.exit(1);
        }
    }

    // ---- worlds

    /** A, B, C and H run; F did; all numbers are others than at first; a FILM that is A's and B's; image 0 is kept. */
    private static ThreeLegs world() {
        ThreeLegs x = new ThreeLegs();
        x.run(RESTING, 7, 7, 2);
        x.run(A, 15, 6, 1);
        x.image(0);
        x.run(A, 10, 3, 1);
        x.run(1, 13, 2, 0);
        x.run(2, 10, 9, 4);
        x.run(LAST, 12, 4, 3);
        x.rest(RESTING);
        x.set(1, 7);
        x.set(0, 4);
        x.set(2, 33);
        shoot(x, "slf");
        return x;
    }

    private static ThreeLegs bothKept() {
        ThreeLegs x = world();
        x.image(1);
        x.rest(2);
        return x;
    }

    /** 40 signs; all that A and B show. */
    private static ThreeLegs full() {
        ThreeLegs x = world();
        x.run(1, 10, 2, 0);
        shoot(x, "ssssssssssssssssssssssssssssssssssssssss");
        return x;
    }

    private static ThreeLegs faulty() {
        ThreeLegs x = world();
        shoot(x, "sxs");
        return x;
    }

    private static ThreeLegs odd() {
        ThreeLegs x = world();
        x.rest(2);
        return x;
    }

    private static void shoot(ThreeLegs x, String film) {
        x.wipe();
        for (int i = 0; i < film.length(); i++) {
            x.say(film.charAt(i));
        }
    }

    /** Answers to so many questions that whatever a call changed shows in one of them; it changes the object. */
    private static int[] allOf(ThreeLegs x) {
        List<Integer> all = new ArrayList<>();
        tellAll(x, all);
        all.add(x.fault());
        for (int i = -1; i < 7; i++) {
            all.add(x.fits(i));
        }
        int[] four = {A, 1, 2, LAST};
        for (int one : four) {
            for (int other : four) {
                all.add(x.judge(one, other));
                all.add(x.pair(one, other, 50, 0));
                all.add(x.pair(one, other, 50, 1));
            }
        }
        all.add(x.restore(0));
        tellAll(x, all);
        all.add(x.restore(1));
        tellAll(x, all);
        all.add(x.wipe());
        int[] answers = new int[all.size()];
        for (int i = 0; i < answers.length; i++) {
            answers[i] = all.get(i);
        }
        return answers;
    }

    private static void tellAll(ThreeLegs x, List<Integer> all) {
        for (int what = 0; what < 93; what++) {
            all.add(x.told(what));
        }
    }

    // ---- looks

    private static void fail(String words) {
        wrong++;
        System.out.println(words);
    }

    private static void refused(String name, World world, Ask ask, int[] v, int want) {
        looked++;
        ThreeLegs x = world.make();
        int got = ask.of(x, v);
        String call = name + Arrays.toString(v);
        if (got != want) {
            fail(call + " answered " + got + ", due is " + want);
        }
        if (!Arrays.equals(allOf(x), allOf(world.make()))) {
            fail(call + " is refused and changed something");
        }
    }

    private static void taken(String name, World world, Ask ask, int[] v) {
        looked++;
        int got = ask.of(world.make(), v);
        if (got < 0 && got != NONE) {
            fail(name + Arrays.toString(v) + " answered " + got + " and should be taken");
        }
    }

    private static void keeps(String name, World world, Ask ask, int[] v) {
        ThreeLegs x = world.make();
        ask.of(x, v);
        if (!Arrays.equals(allOf(x), allOf(world.make()))) {
            fail(name + Arrays.toString(v) + " only asks and changed something");
        }
    }

    private static int first(int one, int other) {
        return Math.max(one, other);
    }

    private static int[] good(Number... numbers) {
        int[] v = new int[numbers.length];
        for (int i = 0; i < v.length; i++) {
            v[i] = numbers[i].taken[0];
        }
        return v;
    }

    private static int[] with(int[] v, int at, int value) {
        int[] other = v.clone();
        other[at] = value;
        return other;
    }

    /** A call that changes something if it is taken. */
    private static void does(String name, World world, Ask ask, Number... numbers) {
        int[] good = good(numbers);
        for (int i = 0; i < numbers.length; i++) {
            for (int value : numbers[i].taken) {
                taken(name, world, ask, with(good, i, value));
            }
            for (int value : numbers[i].refused) {
                refused(name, world, ask, with(good, i, value), numbers[i].refusal);
            }
            for (int j = 0; j < i; j++) {
                twoRefusals(name, world, ask, good, numbers, j, i);
            }
        }
    }

    /** UNKNOWN ahead of OUTSIDE, wherever the two numbers stand. */
    private static void twoRefusals(String name, World world, Ask ask, int[] good, Number[] numbers, int i, int j) {
        for (int value : numbers[i].refused) {
            for (int otherValue : numbers[j].refused) {
                refused(name, world, ask, with(with(good, i, value), j, otherValue),
                    first(numbers[i].refusal, numbers[j].refusal));
            }
        }
    }

    /** A call that changes nothing even if it is taken. */
    private static void asks(String name, World world, Ask ask, Number... numbers) {
        does(name, world, ask, numbers);
        int[] good = good(numbers);
        keeps(name, world, ask, good);
        for (int i = 0; i < numbers.length; i++) {
            for (int value : numbers[i].taken) {
                keeps(name, world, ask, with(good, i, value));
            }
        }
    }

    // ---- the calls

    private static void people() {
        World w = () -> world();
        does("run", w, (x, v) -> x.run(v[0], v[1], v[2], v[3]), any(), range(4, 20), range(1, 9), range(0, 4));
        does("rest", w, (x, v) -> x.rest(v[0]), runner(LAST));
        // FALL is 7, LURCH 4: so LURCH ends at 7, FALL begins at 4.
        does("set LURCH", w, (x, v) -> x.set(0, v[0]), range(0, 7));
        does("set FALL", w, (x, v) -> x.set(1, v[0]), range(4, 20));
        does("set UP", w, (x, v) -> x.set(2, v[0]), range(0, 99));
        does("set", w, (x, v) -> x.set(v[0], v[1]), range(0, 2), new Number(OUTSIDE, new int[] {4, 7},
            new int[] {-1, 100, MIN, MAX}));
    }

    private static void pairs() {
        World w = () -> world();
        asks("pair", w, (x, v) -> x.pair(v[0], v[1], v[2], v[3]), runner(A), runner(LAST), range(0, 999), range(0, 4));
        asks("reach", w, (x, v) -> x.reach(v[0], v[1], v[2], v[3]), runner(LAST), runner(A), range(1, 999),
            range(0, 1));
        asks("who", w, (x, v) -> x.who(v[0], v[1], v[2]), runner(A), runner(LAST), range(0, 1));
        asks("alone", w, (x, v) -> x.alone(v[0], v[1]), runner(LAST), range(1, 999));
    }

    private static void whomWithWhom() {
        World w = () -> world();
        Number feet = range(1, 999);
        Number flag = range(0, 1);
        asks("tied", w, (x, v) -> x.tied(v[0], v[1], v[2]), feet, flag, mateOrMinusOne());
        asks("call", w, (x, v) -> x.call(v[0], v[1], v[2], v[3]), runner(A), runner(1), feet, flag);
        asks("quicken", w, (x, v) -> x.quicken(v[0], v[1], v[2], v[3]), runner(A), runner(1), feet, flag);
        asks("yields", w, (x, v) -> x.yields(v[0], v[1], v[2], v[3]), runner(A), runner(1), feet, flag);
        asks("practice", w, (x, v) -> x.practice(v[0], v[1], v[2], v[3]), runner(A), runner(1), range(0, 999), flag);
        asks("scarf", w, (x, v) -> x.scarf(v[0], v[1], v[2], v[3]), runner(A), runner(1), feet, range(0, 9999));
        asks("even", w, (x, v) -> x.even(v[0], v[1], v[2], v[3], v[4]), runner(A), runner(1), runner(2), runner(LAST),
            feet);
        asks("even, one in both PAIRS", w, (x, v) -> x.even(v[0], 1, v[1], 1, v[2]), runner(A), runner(LAST), feet);
    }

    private static void films() {
        World w = () -> world();
        does("say", w, (x, v) -> x.say(v[0]), range(33, 126));
        asks("judge", w, (x, v) -> x.judge(v[0], v[1]), runner(A), runner(LAST));
        asks("fault", w, (x, v) -> x.fault());
        asks("fits", w, (x, v) -> x.fits(v[0]), new Number(NO, new int[] {-1, 0, 5, 6, -2, MIN, MAX}, new int[0]));
        asks("year", w, (x, v) -> x.year(v[0], v[1], v[2], v[3]), range(0, 9999), range(1, 99), range(1, 999),
            range(-1, 8));
        does("image", w, (x, v) -> x.image(v[0]), range(0, 1));
        does("restore", () -> bothKept(), (x, v) -> x.restore(v[0]), range(0, 1));
        asks("told", w, (x, v) -> x.told(v[0]), new Number(OUTSIDE, new int[] {0, 4, 10, 12, 80, 82},
            new int[] {-1, 5, 9, 13, 19, 40, 41, 42, 60, 61, 62, 79, 83, 89, 90, -10, -9, MIN, MAX}));
    }

    /** UNKNOWN: both are one; ahead of OUTSIDE; within each PAIR of even(). */
    private static void bothAreOne() {
        World w = () -> world();
        for (int one : new int[] {A, LAST}) {
            for (int good = 1; good >= 0; good--) {
                int n = good == 1 ? 1 : -1;
                int what = good == 1 ? 0 : 5;
                int[] v = {one, one, n, what};
                refused("pair", w, (x, u) -> x.pair(u[0], u[1], u[2], u[3]), v, UNKNOWN);
                refused("reach", w, (x, u) -> x.reach(u[0], u[1], u[2], u[3]), v, UNKNOWN);
                refused("who", w, (x, u) -> x.who(u[0], u[1], u[3]), v, UNKNOWN);
                refused("call", w, (x, u) -> x.call(u[0], u[1], u[2], u[3]), v, UNKNOWN);
                refused("quicken", w, (x, u) -> x.quicken(u[0], u[1], u[2], u[3]), v, UNKNOWN);
                refused("yields", w, (x, u) -> x.yields(u[0], u[1], u[2], u[3]), v, UNKNOWN);
                refused("practice", w, (x, u) -> x.practice(u[0], u[1], u[2], u[3]), v, UNKNOWN);
                refused("scarf", w, (x, u) -> x.scarf(u[0], u[1], u[2], u[2]), v, UNKNOWN);
                refused("even, the first two", w, (x, u) -> x.even(u[0], u[1], 1, 2, u[2]), v, UNKNOWN);
                refused("even, the second two", w, (x, u) -> x.even(1, 2, u[0], u[1], u[2]), v, UNKNOWN);
                refused("judge", w, (x, u) -> x.judge(u[0], u[1]), v, UNKNOWN);
                refused("judge, a FAULT", () -> faulty(), (x, u) -> x.judge(u[0], u[1]), v, UNKNOWN);
            }
        }
    }

    /** STATE ahead of UNKNOWN and of OUTSIDE: an odd number runs, or nobody. */
    private static void oddNumbers() {
        World[] worlds = {() -> odd(), () -> new ThreeLegs(), () -> alone()};
        int[][] rows = {{1, 0, -1}, {1, 0, A}, {1, 1, STRANGER}, {1, 0, 8}, {1, 0, -2}, {0, 0, -1}, {1000, 1, A},
            {1, 2, -1}, {1, -1, A}, {0, 2, 8}, {MIN, MAX, MIN}};
        for (World w : worlds) {
            for (int[] v : rows) {
                refused("tied, an odd number or nobody", w, (x, u) -> x.tied(u[0], u[1], u[2]), v, STATE);
            }
        }
    }

    private static ThreeLegs alone() {
        ThreeLegs x = new ThreeLegs();
        x.run(A, 10, 3, 0);
        return x;
    }

    /** FULL behind OUTSIDE. */
    private static void fullPad() {
        World w = () -> full();
        for (int sign : new int[] {33, 's', 'l', 'f', '?', 'x', 126}) {
            refused("say, 40 signs", w, (x, v) -> x.say(v[0]), new int[] {sign}, FULL);
        }
        for (int sign : new int[] {32, 127, 0, -1, MIN, MAX}) {
            refused("say, 40 signs", w, (x, v) -> x.say(v[0]), new int[] {sign}, OUTSIDE);
        }
    }

    /** NO: there is a FAULT; behind UNKNOWN; ahead of NONE. */
    private static void faultyFilm() {
        World w = () -> faulty();
        for (int i : new int[] {-1, 0, 5, 6, -2, MIN, MAX}) {
            refused("fits, a FAULT", w, (x, v) -> x.fits(v[0]), new int[] {i}, NO);
        }
        refused("judge, a FAULT", w, (x, v) -> x.judge(v[0], v[1]), new int[] {A, LAST}, NO);
        refused("judge, a FAULT", w, (x, v) -> x.judge(v[0], v[1]), new int[] {LAST, A}, NO);
        for (int one : new int[] {-1, 8, STRANGER, RESTING, MIN, MAX}) {
            refused("judge, a FAULT", w, (x, v) -> x.judge(v[0], v[1]), new int[] {one, A}, UNKNOWN);
            refused("judge, a FAULT", w, (x, v) -> x.judge(v[0], v[1]), new int[] {A, one}, UNKNOWN);
        }
    }

    /** STATE: it was not kept; OUTSIDE ahead. */
    private static void notKept() {
        refused("restore, kept 0 alone", () -> world(), (x, v) -> x.restore(v[0]), new int[] {1}, STATE);
        refused("restore, kept none", () -> alone(), (x, v) -> x.restore(v[0]), new int[] {0}, STATE);
        refused("restore, kept none", () -> alone(), (x, v) -> x.restore(v[0]), new int[] {1}, STATE);
        for (int n : new int[] {-1, 2, MIN, MAX}) {
            refused("restore, kept none", () -> alone(), (x, v) -> x.restore(v[0]), new int[] {n}, OUTSIDE);
        }
    }

    /** told() says OUTSIDE, not UNKNOWN, of one who does not run; and so for all of a new object. */
    private static void nobodyToTell() {
        for (int what = 5; what < 100; what++) {
            refused("told, nobody runs", () -> new ThreeLegs(), (x, v) -> x.told(v[0]), new int[] {what}, OUTSIDE);
        }
    }
}

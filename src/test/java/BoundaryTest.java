/**
 * For each sentence of the document that names a boundary case a test of its own, with answers worked out by hand.
 * What is refused, in which order and that it changes nothing is looked at by RefusalTest for each number of each call.
 */
public final class BoundaryTest {
    private static final int UNKNOWN = -1, OUTSIDE = -2, STATE = -3, FULL = -4, NO = -5, NONE = -6;
    private static final int MIN = Integer.MIN_VALUE, MAX = Integer.MAX_VALUE;

    private static int wrong = 0;
    private static int sentences = 0;
    private static String sentence = "";

    private static void says(String words) {
        sentence = words;
        sentences++;
    }

    private static void due(String call, int got, int want) {
        if (got != want) {
            wrong++;
            System.out.println("\"" + sentence + "\": " + call + " answered " + got + ", due is " + want);
        }
    }

    public static void main(String[] args) {
        Calls.all();
        People.all();
        Steps.all();
        Pairs.all();
        Tying.all();
        Trials.all();
        Films.all();
        Years.all();
        Kept.all();
        System.out.println(wrong == 0 ? sentences + " sentences hold" : wrong + " answers are not as due");
        if (wrong != 0) {
            System.exit(1);
        }
    }

    // ---- what the tests begin with

    /** A, B, ... by threes: BEAT, LENGTH, GIVE. */
    private static ThreeLegs of(int... numbers) {
        ThreeLegs x = new ThreeLegs();
        for (int i = 0; i + 2 < numbers.length; i += 3) {
            x.run(i / 3, numbers[i], numbers[i + 1], numbers[i + 2]);
        }
        return x;
    }

    private static ThreeLegs alike(int people) {
        ThreeLegs x = new ThreeLegs();
        for (int i = 0; i < people; i++) {
            x.run(i, 10, 1, 0);
        }
        return x;
    }

    private static ThreeLegs limits(ThreeLegs x, int lurch, int fall, int up) {
        x.set(0, 0);
        x.set(1, fall);
        x.set(0, lurch);
        x.set(2, up);
        return x;
    }

    private static ThreeLegs shoot(ThreeLegs x, String film) {
        x.wipe();
        for (int i = 0; i < film.length(); i++) {
            x.say(film.charAt(i));
        }
        return x;
    }

    /** TIME, feet, lurches, falls, APART now. */
    private static void run(ThreeLegs x, int n, int time, int feet, int lurches, int falls, int apart) {
        due("pair(0, 1, " + n + ", 0)", x.pair(0, 1, n, 0), time);
        due("pair(0, 1, " + n + ", 1)", x.pair(0, 1, n, 1), feet);
        due("pair(0, 1, " + n + ", 2)", x.pair(0, 1, n, 2), lurches);
        due("pair(0, 1, " + n + ", 3)", x.pair(0, 1, n, 3), falls);
        due("pair(0, 1, " + n + ", 4)", x.pair(0, 1, n, 4), apart);
    }

    /** An answer of two numbers: for what = 0 and for what = 1. */
    private static void both(String call, int first, int second, int wantFirst, int wantSecond) {
        due(call + ", what = 0", first, wantFirst);
        due(call + ", what = 1", second, wantSecond);
    }

    private static String times(char sign, int n) {
        return String.valueOf(sign).repeat(n);
    }

    // ---- what holds for all calls

    private static final class Calls {
        static void all() {
            lastCall();
            noSuchPerson();
            nobodyRunsAnyMore();
            bothAreOne();
            anyOfRun();
            anyOfYear();
            toldOfOneWhoDoesNotRun();
            unknownFirst();
            stateFirst();
            noBehindUnknown();
            fullLast();
        }

        static void lastCall() {
            says("An object is used for at most 512 calls after it has been made");
            ThreeLegs x = of(10, 3, 0, 13, 2, 0);
            x.image(0);
            for (int call = 4; call <= 510; call++) {
                x.tied(999, 0, -1);
            }
            due("the 511th call", x.pair(0, 1, 999, 0), 499 * 116 + 13);
            due("the 512th call", x.restore(0), 1);
            ThreeLegs y = new ThreeLegs();
            for (int call = 1; call <= 510; call++) {
                due("say and wipe by turns", call % 2 == 1 ? y.say('s') : y.wipe(), 1);
            }
            due("the 511th call", y.wipe(), 0);
            due("the 512th call", y.run(7, 20, 9, 4), 1);
        }

        static void noSuchPerson() {
            says("UNKNOWN -1 (there is no such PERSON who runs");
            ThreeLegs x = of(10, 3, 0, 13, 2, 0);
            for (int p : new int[] {2, 7, 8, -1, MIN, MAX}) {
                due("rest " + p, x.rest(p), UNKNOWN);
                due("alone " + p, x.alone(p, 1), UNKNOWN);
                due("tied " + p, x.tied(1, 0, p), p == -1 ? 100000 : UNKNOWN);
                for (int i = 0; i < 2; i++) {
                    int a = i == 0 ? p : 0;
                    int b = i == 0 ? 0 : p;
                    due("pair " + p, x.pair(a, b, 1, 0), UNKNOWN);
                    due("reach " + p, x.reach(a, b, 1, 0), UNKNOWN);
                    due("who " + p, x.who(a, b, 0), UNKNOWN);
                    due("call " + p, x.call(a, b, 1, 0), UNKNOWN);
                    due("quicken " + p, x.quicken(a, b, 1, 0), UNKNOWN);
                    due("yields " + p, x.yields(a, b, 1, 0), UNKNOWN);
                    due("practice " + p, x.practice(a, b, 1, 0), UNKNOWN);
                    due("scarf " + p, x.scarf(a, b, 1, 99), UNKNOWN);
                    due("even, first two " + p, x.even(a, b, 0, 1, 1), UNKNOWN);
                    due("even, second two " + p, x.even(0, 1, a, b, 1), UNKNOWN);
                    due("judge " + p, x.judge(a, b), UNKNOWN);
                }
            }
        }

        static void nobodyRunsAnyMore() {
            says("there is no such PERSON who runs: one who ran and rests");
            ThreeLegs x = of(10, 3, 0, 10, 2, 0);
            due("as long as both run", x.pair(0, 1, 1, 0), 10);
            x.rest(0);
            due("one rests", x.pair(0, 1, 1, 0), UNKNOWN);
            due("one rests", x.pair(1, 0, 1, 0), UNKNOWN);
            due("one rests", x.alone(0, 1), UNKNOWN);
            due("the other one does not", x.alone(1, 1), 10);
            x.run(0, 10, 3, 0);
            due("it runs again", x.pair(0, 1, 1, 0), 10);
        }

        static void bothAreOne() {
            says("UNKNOWN -1 (.. both are one)");
            ThreeLegs x = alike(8);
            for (int p = 0; p < 8; p++) {
                due("pair", x.pair(p, p, 1, 0), UNKNOWN);
                due("reach", x.reach(p, p, 1, 0), UNKNOWN);
                due("who", x.who(p, p, 0), UNKNOWN);
                due("call", x.call(p, p, 1, 0), UNKNOWN);
                due("quicken", x.quicken(p, p, 1, 0), UNKNOWN);
                due("yields", x.yields(p, p, 1, 0), UNKNOWN);
                due("practice", x.practice(p, p, 1, 0), UNKNOWN);
                due("scarf", x.scarf(p, p, 1, 99), UNKNOWN);
                due("judge", x.judge(p, p), UNKNOWN);
                due("even, the first two", x.even(p, p, 0, 1, 1), UNKNOWN);
                due("even, the second two", x.even(0, 1, p, p, 1), UNKNOWN);
            }
            says("UNKNOWN: also within a PAIR both are one (of even(): not one in both PAIRS)");
            due("one in both", x.even(0, 1, 1, 2, 1), 0);
            due("one in both", x.even(0, 1, 2, 0, 1), 0);
            due("both in both", x.even(0, 1, 0, 1, 1), 0);
            due("both in both", x.even(0, 1, 1, 0, 1), 0);
        }

        static void anyOfRun() {
            says("of run() .. any from 0 to 7 is let");
            ThreeLegs x = new ThreeLegs();
            due("run -1", x.run(-1, 10, 1, 0), UNKNOWN);
            for (int p = 0; p < 8; p++) {
                due("run " + p, x.run(p, 10, 1, 0), p + 1);
            }
            due("run 8", x.run(8, 10, 1, 0), UNKNOWN);
        }

        static void anyOfYear() {
            says("of .. year() any from 0 to 7 is let");
            ThreeLegs x = new ThreeLegs();
            due("of -2", x.year(0, 1, 1, -2), OUTSIDE);
            for (int p = 0; p < 8; p++) {
                due("of one who does not run", x.year(0, 1, 1, p), 0);
            }
            due("of 9", x.year(0, 1, 1, 9), OUTSIDE);
        }

        static void toldOfOneWhoDoesNotRun() {
            says("told() says OUTSIDE of one who does not run");
            ThreeLegs x = new ThreeLegs();
            for (int p = 0; p < 8; p++) {
                due("nobody", x.told(10 + 10 * p), OUTSIDE);
                x.run(p, 10, 1, 0);
                due("it runs", x.told(10 + 10 * p), 10);
                x.rest(p);
                due("it rests", x.told(10 + 10 * p), OUTSIDE);
                due("it rests", x.told(10 + 10 * p + 2), OUTSIDE);
            }
        }

        static void unknownFirst() {
            says("the first of these that fits: UNKNOWN -1 .. OUTSIDE -2");
            ThreeLegs x = of(10, 3, 0, 13, 2, 0);
            due("run", x.run(8, 3, 0, 5), UNKNOWN);
            due("pair", x.pair(0, 2, 1000, 5), UNKNOWN);
            due("reach", x.reach(2, 0, 0, 2), UNKNOWN);
            due("who", x.who(1, 1, 2), UNKNOWN);
            due("alone", x.alone(2, 0), UNKNOWN);
            due("tied", x.tied(0, 2, 2), UNKNOWN);
            due("call", x.call(0, 8, 1000, -1), UNKNOWN);
            due("quicken", x.quicken(0, 0, 0, 0), UNKNOWN);
            due("yields", x.yields(-1, 0, 0, 0), UNKNOWN);
            due("practice", x.practice(0, 7, -1, 0), UNKNOWN);
            due("scarf", x.scarf(0, 0, 1, 10000), UNKNOWN);
            due("even", x.even(0, 1, 1, 1, 0), UNKNOWN);
        }

        static void stateFirst() {
            says("STATE (ahead of UNKNOWN): an odd number runs, or nobody");
            ThreeLegs x = new ThreeLegs();
            due("nobody, UNKNOWN too", x.tied(1, 0, 0), STATE);
            due("nobody, OUTSIDE too", x.tied(0, 2, -1), STATE);
            x.run(0, 10, 1, 0);
            due("one, UNKNOWN too", x.tied(1, 0, 1), STATE);
            due("one, OUTSIDE too", x.tied(1000, 0, 0), STATE);
            due("one, both too", x.tied(1, -1, 8), STATE);
            x.run(1, 10, 1, 0);
            due("two: UNKNOWN", x.tied(1, -1, 8), UNKNOWN);
            due("two: OUTSIDE", x.tied(1, -1, 1), OUTSIDE);
            due("two", x.tied(1, 0, 1), 0);
        }

        static void noBehindUnknown() {
            says("UNKNOWN -1 .. NO -5 (as told)");
            ThreeLegs x = shoot(of(10, 3, 0, 10, 2, 0), "sx");
            due("judge, no such PERSON", x.judge(0, 2), UNKNOWN);
            due("judge, both are one", x.judge(1, 1), UNKNOWN);
            due("judge", x.judge(0, 1), NO);
        }

        static void fullLast() {
            says("OUTSIDE -2 .. FULL -4");
            ThreeLegs x = shoot(new ThreeLegs(), times('s', 40));
            due("say 32", x.say(32), OUTSIDE);
            due("say 127", x.say(127), OUTSIDE);
            due("say 33", x.say(33), FULL);
            due("say 126", x.say(126), FULL);
        }
    }

    // ---- 1 people

    private static final class People {
        static void all() {
            noneAtFirst();
            howMany();
            otherwise();
            beat();
            length();
            give();
            lurch();
            fall();
            up();
            which();
            nobodyLeft();
        }

        static void noneAtFirst() {
            says("some of whom run (none at first)");
            ThreeLegs x = new ThreeLegs();
            due("who runs", x.told(1), 0);
            due("signs", x.told(0), 0);
            for (int p = 0; p < 8; p++) {
                due("rest", x.rest(p), UNKNOWN);
            }
            due("tied", x.tied(1, 0, -1), STATE);
            due("fits", x.fits(-1), 0);
        }

        static void howMany() {
            says("PEOPLE 0 to 7 (A to H), some of whom run");
            ThreeLegs x = new ThreeLegs();
            for (int p = 7; p >= 0; p--) {
                due("run " + p, x.run(p, 10, 1, 0), 8 - p);
            }
            due("all run", x.told(1), 255);
            due("the first one rests", x.rest(0), 7);
            due("the last one rests", x.rest(7), 6);
            due("who runs", x.told(1), 126);
        }

        static void otherwise() {
            says("A PERSON runs (or otherwise, if it did): how many run");
            ThreeLegs x = of(10, 3, 0, 13, 2, 0);
            due("otherwise", x.run(0, 4, 9, 4), 2);
            due("BEAT", x.told(10), 4);
            due("LENGTH", x.told(11), 9);
            due("GIVE", x.told(12), 4);
            due("the other one as it was", x.told(20), 13);
            due("the very same once more", x.run(0, 4, 9, 4), 2);
            x.rest(0);
            due("behind a rest", x.run(0, 5, 1, 1), 2);
            due("BEAT", x.told(10), 5);
        }

        static void beat() {
            says("BEAT (4 to 20 tenths a step)");
            ThreeLegs x = new ThreeLegs();
            due("3", x.run(0, 3, 1, 0), OUTSIDE);
            due("4", x.run(0, 4, 1, 0), 1);
            due("4: TIME", x.alone(0, 1), 4);
            due("20", x.run(0, 20, 1, 0), 1);
            due("20: TIME", x.alone(0, 1), 20);
            due("21", x.run(0, 21, 1, 0), OUTSIDE);
            due("as it was", x.told(10), 20);
        }

        static void length() {
            says("LENGTH (1 to 9 feet a step)");
            ThreeLegs x = new ThreeLegs();
            due("0", x.run(0, 10, 0, 0), OUTSIDE);
            due("1", x.run(0, 10, 1, 0), 1);
            due("1: two STEPS for 2 feet", x.alone(0, 2), 20);
            due("9", x.run(0, 10, 9, 0), 1);
            due("9: a STEP for 9 feet", x.alone(0, 9), 10);
            due("10", x.run(0, 10, 10, 0), OUTSIDE);
            due("as it was", x.told(11), 9);
        }

        static void give() {
            says("GIVE (0 to 4)");
            ThreeLegs x = limits(of(10, 1, 4, 13, 1, 4), 0, 20, 0);
            due("-1", x.run(1, 13, 1, -1), OUTSIDE);
            due("0, of A too", x.run(0, 10, 1, 0), 2);
            due("0", x.run(1, 13, 1, 0), 2);
            due("0: APART by 3 and 3 more", x.pair(0, 1, 2, 4), 6);
            due("4", x.run(1, 13, 1, 4), 2);
            due("4: all of the first 3 made good", x.pair(0, 1, 2, 4), 3);
            due("5", x.run(1, 13, 1, 5), OUTSIDE);
            due("as it was", x.told(22), 4);
        }

        static void lurch() {
            says("LURCH (0 to 9 tenths; 2 at first)");
            ThreeLegs x = new ThreeLegs();
            due("at first", x.told(2), 2);
            due("-1", x.set(0, -1), OUTSIDE);
            due("0: which it was", x.set(0, 0), 2);
            x.set(1, 20);
            due("9: which it was", x.set(0, 9), 0);
            due("10, FALL 20", x.set(0, 10), OUTSIDE);
            due("as it was", x.told(2), 9);
            says("OUTSIDE: also a LURCH above FALL");
            ThreeLegs y = new ThreeLegs();
            due("6, FALL 5", y.set(0, 6), OUTSIDE);
            due("as it was", y.told(2), 2);
            due("5, FALL 5", y.set(0, 5), 2);
            y.set(0, 0);
            y.set(1, 0);
            due("1, FALL 0", y.set(0, 1), OUTSIDE);
            due("0, FALL 0", y.set(0, 0), 0);
            y.set(1, 9);
            due("9, FALL 9", y.set(0, 9), 0);
            due("10, FALL 9", y.set(0, 10), OUTSIDE);
        }

        static void fall() {
            says("FALL (LURCH to 20; 5 at first)");
            ThreeLegs x = new ThreeLegs();
            due("at first", x.told(3), 5);
            due("21", x.set(1, 21), OUTSIDE);
            due("20: which it was", x.set(1, 20), 5);
            says("OUTSIDE: also .. a FALL below LURCH");
            due("1, LURCH 2", x.set(1, 1), OUTSIDE);
            due("as it was", x.told(3), 20);
            due("2, LURCH 2", x.set(1, 2), 20);
            x.set(0, 0);
            due("0, LURCH 0", x.set(1, 0), 2);
            due("-1, LURCH 0", x.set(1, -1), OUTSIDE);
            x.set(1, 20);
            x.set(0, 9);
            due("8, LURCH 9", x.set(1, 8), OUTSIDE);
            due("9, LURCH 9", x.set(1, 9), 20);
        }

        static void up() {
            says("UP (0 to 99 tenths; 90 at first)");
            ThreeLegs x = new ThreeLegs();
            due("at first", x.told(4), 90);
            due("-1", x.set(2, -1), OUTSIDE);
            due("0: which it was", x.set(2, 0), 90);
            due("99: which it was", x.set(2, 99), 0);
            due("100", x.set(2, 100), OUTSIDE);
            due("as it was", x.told(4), 99);
        }

        static void which() {
            says("0 LURCH, 1 FALL, 2 UP");
            ThreeLegs x = new ThreeLegs();
            for (int which : new int[] {-1, 3, MIN, MAX}) {
                due("which " + which, x.set(which, 3), OUTSIDE);
            }
            due("0", x.set(0, 3), 2);
            due("1", x.set(1, 4), 5);
            due("2", x.set(2, 5), 90);
            due("LURCH", x.told(2), 3);
            due("FALL", x.told(3), 4);
            due("UP", x.told(4), 5);
        }

        static void nobodyLeft() {
            says("A PERSON runs no more: how many run. UNKNOWN: nor did it");
            ThreeLegs x = of(10, 3, 0, 13, 2, 0);
            due("one is left", x.rest(1), 1);
            due("nor did it", x.rest(1), UNKNOWN);
            due("nobody is left", x.rest(0), 0);
            due("nor did it", x.rest(0), UNKNOWN);
            due("who runs", x.told(1), 0);
        }
    }

    // ---- the STEPS of a PAIR

    private static final class Steps {
        static void all() {
            timeZero();
            cutTowardsZero();
            tenthLater();
            aboveFall();
            leastFall();
            greatestFall();
            upAndNoFeet();
            aboveLurch();
            lurchAsFall();
            lesserLength();
            laterOne();
        }

        static void timeZero() {
            says("from TIME 0 of both on");
            run(of(20, 9, 4, 4, 9, 4), 0, 0, 0, 0, 0, 0);
            // The first STEP is of the BEATS alone: GIVE times 0.
            run(of(10, 1, 4, 12, 1, 4), 1, 12, 1, 0, 0, 2);
        }

        static void cutTowardsZero() {
            says("GIVE times (the other's last TIME less its own) by 4, this quotient cut towards 0");
            // 3 by 4 is 0 and -3 by 4 is 0: 20 and 26.
            run(limits(of(10, 1, 1, 13, 1, 1), 9, 20, 0), 2, 26, 2, 0, 0, 6);
            // 9 by 4 is 2 and -9 by 4 is -2: 22 and 24.
            run(limits(of(10, 1, 3, 13, 1, 3), 9, 20, 0), 2, 24, 2, 0, 0, 2);
            // 6 by 4 is 1, times ahead of by: 21 and 25; 2 times 4 by 4 is 2: 33 and 36.
            run(limits(of(10, 1, 2, 13, 1, 2), 9, 20, 0), 2, 25, 2, 0, 0, 4);
            run(limits(of(10, 1, 2, 13, 1, 2), 9, 20, 0), 3, 36, 3, 0, 0, 3);
            // 4 by 4 is 1 and -4 by 4 is -1, nothing cut: 21 and 27.
            run(limits(of(10, 1, 1, 14, 1, 1), 9, 20, 0), 2, 27, 2, 0, 0, 6);
            // 5 by 4 is 1 and -5 by 4 is -1: 21 and 29.
            run(limits(of(10, 1, 1, 15, 1, 1), 9, 20, 0), 2, 29, 2, 0, 0, 8);
            // All of 16 given by both: 20 and 4 become 24 and 24.
            run(limits(of(20, 1, 4, 4, 1, 4), 9, 20, 0), 2, 24, 1, 1, 0, 0);
        }

        static void tenthLater() {
            // By trial of all BEATS, GIVES, FALLS and k: no STEP is less than 3 tenths (not quickened: 4) later.
            says("but a tenth later than its last one at least");
            ThreeLegs x = limits(of(20, 1, 4, 4, 1, 0), 9, 20, 0);
            run(x, 2, 24, 0, 2, 0, 16);
            run(x, 3, 28, 0, 3, 0, 16);
            run(x, 999, 20 + 998 * 4, 0, 999, 0, 16);
        }

        static void aboveFall() {
            says("APART above FALL: they fall");
            run(limits(of(10, 1, 0, 13, 1, 0), 0, 3, 90), 1, 13, 0, 1, 0, 3);
            run(limits(of(10, 1, 0, 13, 1, 0), 0, 2, 90), 1, 103, 0, 0, 1, 0);
            run(limits(of(13, 1, 0, 10, 1, 0), 0, 3, 90), 1, 13, 0, 1, 0, 3);
            run(limits(of(13, 1, 0, 10, 1, 0), 0, 2, 90), 1, 103, 0, 0, 1, 0);
        }

        static void leastFall() {
            says("APART above FALL: a FALL of 0");
            run(limits(of(10, 1, 0, 10, 1, 0), 0, 0, 90), 999, 9990, 999, 0, 0, 0);
            run(limits(of(10, 1, 0, 11, 1, 0), 0, 0, 90), 999, 999 * 101, 0, 0, 999, 0);
        }

        static void greatestFall() {
            says("APART above FALL: a FALL of 20");
            // APART grows by 1: at STEP 19 it is 20, at STEP 20 it is 21.
            ThreeLegs x = limits(of(4, 1, 0, 5, 1, 0), 9, 20, 99);
            run(x, 20, 100, 9, 11, 0, 20);
            run(x, 21, 105 + 99, 9, 11, 1, 0);
        }

        static void upAndNoFeet() {
            says("no feet, both TIMES become the later one and UP");
            run(limits(of(4, 9, 0, 20, 9, 0), 0, 15, 0), 1, 20, 0, 0, 1, 0);
            run(limits(of(4, 9, 0, 20, 9, 0), 0, 15, 1), 1, 21, 0, 0, 1, 0);
            run(limits(of(20, 9, 0, 4, 9, 0), 0, 15, 99), 1, 119, 0, 0, 1, 0);
            // Both go on from there: 119 and 20, and 99.
            run(limits(of(20, 9, 0, 4, 9, 0), 0, 15, 99), 2, 238, 0, 0, 2, 0);
            run(limits(of(20, 9, 0, 4, 9, 0), 0, 15, 99), 999, 999 * 119, 0, 0, 999, 0);
        }

        static void aboveLurch() {
            says("Else APART above LURCH: they lurch: no feet. Else they come on");
            run(limits(of(10, 1, 0, 13, 1, 0), 3, 5, 90), 1, 13, 1, 0, 0, 3);
            run(limits(of(10, 1, 0, 13, 1, 0), 2, 5, 90), 1, 13, 0, 1, 0, 3);
            run(limits(of(10, 1, 0, 10, 1, 0), 0, 5, 90), 1, 10, 1, 0, 0, 0);
            run(limits(of(10, 1, 0, 11, 1, 0), 0, 5, 90), 1, 11, 0, 1, 0, 1);
            run(limits(of(10, 1, 0, 19, 1, 0), 9, 20, 90), 1, 19, 1, 0, 0, 9);
            run(limits(of(10, 1, 0, 20, 1, 0), 9, 20, 90), 1, 20, 0, 1, 0, 10);
            // They do not get even by a lurch: 13 and 10, 26 and 20.
            run(limits(of(13, 1, 0, 10, 1, 0), 2, 6, 90), 2, 26, 0, 2, 0, 6);
        }

        static void lurchAsFall() {
            says("LURCH as FALL: they never lurch");
            ThreeLegs x = limits(of(10, 1, 0, 13, 1, 0), 3, 3, 90);
            run(x, 1, 13, 1, 0, 0, 3);
            run(x, 2, 116, 1, 0, 1, 0);
            run(x, 999, 499 * 116 + 13, 500, 0, 499, 3);
        }

        static void lesserLength() {
            says("they come on by the lesser LENGTH");
            run(of(10, 1, 0, 10, 9, 0), 3, 30, 3, 0, 0, 0);
            run(of(10, 9, 0, 10, 1, 0), 3, 30, 3, 0, 0, 0);
            run(of(10, 9, 0, 10, 9, 0), 3, 30, 27, 0, 0, 0);
        }

        static void laterOne() {
            says("A STEP's TIME is the later one (behind a fall, with UP)");
            run(of(10, 1, 0, 12, 1, 0), 1, 12, 1, 0, 0, 2);
            run(of(12, 1, 0, 10, 1, 0), 1, 12, 1, 0, 0, 2);
            run(of(12, 1, 0, 6, 1, 0), 1, 102, 0, 0, 1, 0);
            due("REACH takes it too", of(6, 1, 0, 8, 1, 0).reach(0, 1, 1, 1), 8);
            due("REACH takes it too", of(8, 1, 0, 6, 1, 0).reach(0, 1, 1, 1), 8);
        }
    }

    // ---- 2 pairs

    private static final class Pairs {
        static void all() {
            steps();
            fives();
            apartNow();
            feetToReach();
            stepReached();
            notIn999();
            whoStepped();
            neverFall();
            latestFirstFall();
            alone();
        }

        static void steps() {
            says("RUN: of a PAIR behind n STEPS (0 to 999)");
            ThreeLegs x = of(20, 9, 0, 20, 9, 0);
            due("-1", x.pair(0, 1, -1, 0), OUTSIDE);
            run(x, 0, 0, 0, 0, 0, 0);
            run(x, 1, 20, 9, 0, 0, 0);
            run(x, 998, 19960, 8982, 0, 0, 0);
            run(x, 999, 19980, 8991, 0, 0, 0);
            due("1000", x.pair(0, 1, 1000, 0), OUTSIDE);
        }

        static void fives() {
            says("RUN: 0 TIME, 1 feet, 2 lurches, 3 falls, 4 APART");
            ThreeLegs x = limits(of(4, 3, 0, 7, 2, 0), 3, 8, 50);
            due("-1", x.pair(0, 1, 1, -1), OUTSIDE);
            // On by 3, a lurch by 6, a fall by 9: 21 and 50; then on by 3.
            run(x, 1, 7, 2, 0, 0, 3);
            run(x, 2, 14, 2, 1, 0, 6);
            run(x, 3, 71, 2, 1, 1, 0);
            run(x, 4, 78, 4, 1, 1, 3);
            due("5", x.pair(0, 1, 1, 5), OUTSIDE);
        }

        static void apartNow() {
            says("APART is how far both TIMES are from each other then; APART now");
            ThreeLegs x = limits(of(20, 1, 0, 4, 1, 0), 9, 20, 90);
            due("no STEP", x.pair(0, 1, 0, 4), 0);
            due("never below 0", x.pair(0, 1, 1, 4), 16);
            due("never below 0", x.pair(1, 0, 1, 4), 16);
            due("both TIMES are one behind a fall", x.pair(0, 1, 2, 4), 0);
        }

        static void feetToReach() {
            says("REACH: of feet (1 to 999)");
            ThreeLegs x = of(10, 3, 0, 10, 3, 0);
            both("0", x.reach(0, 1, 0, 0), x.reach(0, 1, 0, 1), OUTSIDE, OUTSIDE);
            both("1", x.reach(0, 1, 1, 0), x.reach(0, 1, 1, 1), 0, 10);
            both("999", x.reach(0, 1, 999, 0), x.reach(0, 1, 999, 1), 332, 3330);
            both("1000", x.reach(0, 1, 1000, 0), x.reach(0, 1, 1000, 1), OUTSIDE, OUTSIDE);
            says("REACH: the STEP (what = 0), its TIME (1)");
            due("what -1", x.reach(0, 1, 1, -1), OUTSIDE);
            due("what 2", x.reach(0, 1, 1, 2), OUTSIDE);
        }

        static void stepReached() {
            says("the STEP (from 0 on) at which they are that far");
            ThreeLegs x = of(10, 9, 0, 10, 9, 0);
            both("8", x.reach(0, 1, 8, 0), x.reach(0, 1, 8, 1), 0, 10);
            both("9, just so far", x.reach(0, 1, 9, 0), x.reach(0, 1, 9, 1), 0, 10);
            both("10, a STEP more", x.reach(0, 1, 10, 0), x.reach(0, 1, 10, 1), 1, 20);
            // 4, 5 by GIVES 44: each second STEP is even, the others are lurches.
            ThreeLegs y = limits(of(4, 1, 4, 5, 1, 4), 0, 5, 90);
            both("a lurch ahead", y.reach(0, 1, 1, 0), y.reach(0, 1, 1, 1), 1, 9);
        }

        static void notIn999() {
            says("NONE: not in 999 STEPS");
            ThreeLegs x = alike(2);
            both("the last STEP", x.reach(0, 1, 999, 0), x.reach(0, 1, 999, 1), 998, 9990);
            ThreeLegs y = limits(of(4, 1, 4, 5, 1, 4), 0, 5, 90);
            both("499 in 998", y.reach(0, 1, 499, 0), y.reach(0, 1, 499, 1), 997, 499 * 9);
            both("500 in 1000", y.reach(0, 1, 500, 0), y.reach(0, 1, 500, 1), NONE, NONE);
            ThreeLegs z = limits(of(10, 1, 0, 13, 1, 0), 3, 3, 90);
            both("500 in 999", z.reach(0, 1, 500, 0), z.reach(0, 1, 500, 1), 998, 499 * 116 + 13);
            both("501 in 1001", z.reach(0, 1, 501, 0), z.reach(0, 1, 501, 1), NONE, NONE);
            ThreeLegs never = limits(of(10, 9, 0, 11, 9, 0), 0, 0, 0);
            both("never a foot", never.reach(0, 1, 1, 0), never.reach(0, 1, 1, 1), NONE, NONE);
        }

        static void whoStepped() {
            says("WHO: at the first fall .. the STEP, who stepped earlier");
            ThreeLegs x = of(4, 1, 0, 20, 1, 0);
            both("at once", x.who(0, 1, 0), x.who(0, 1, 1), 0, 0);
            both("at once, named otherwise", x.who(1, 0, 0), x.who(1, 0, 1), 0, 0);
            x.run(7, 4, 1, 0);
            both("the last PERSON", x.who(1, 7, 0), x.who(1, 7, 1), 0, 7);
            both("the last PERSON named first", x.who(7, 1, 0), x.who(7, 1, 1), 0, 7);
            due("what -1", x.who(0, 1, -1), OUTSIDE);
            due("what 2", x.who(0, 1, 2), OUTSIDE);
            // 10, 13 with GIVES 04: 3, then 3 again, and so on; with FALL 2 at once.
            ThreeLegs y = limits(of(10, 1, 0, 13, 1, 4), 2, 3, 90);
            both("as far as FALL", y.who(0, 1, 0), y.who(0, 1, 1), NONE, NONE);
            y.set(1, 2);
            both("above FALL", y.who(0, 1, 0), y.who(0, 1, 1), 0, 0);
        }

        static void neverFall() {
            says("NONE: they never fall");
            ThreeLegs x = limits(alike(2), 0, 0, 0);
            both("of one BEAT", x.who(0, 1, 0), x.who(0, 1, 1), NONE, NONE);
            ThreeLegs y = limits(of(4, 1, 4, 5, 1, 4), 0, 1, 90);
            both("lurches only", y.who(0, 1, 0), y.who(0, 1, 1), NONE, NONE);
        }

        static void latestFirstFall() {
            // By trial of all BEATS, GIVES and FALLS: no first fall is later than at STEP 20.
            says("the first fall within 999 STEPS: the latest there can be");
            ThreeLegs x = limits(of(4, 1, 0, 5, 1, 0), 0, 20, 90);
            both("STEP 20", x.who(0, 1, 0), x.who(0, 1, 1), 20, 0);
            both("STEP 20", x.who(1, 0, 0), x.who(1, 0, 1), 20, 0);
            x.set(1, 19);
            both("STEP 19", x.who(0, 1, 0), x.who(0, 1, 1), 19, 0);
        }

        static void alone() {
            says("ALONE: feet 1 to 999");
            ThreeLegs x = of(20, 1, 4, 4, 9, 0);
            due("0", x.alone(0, 0), OUTSIDE);
            due("1", x.alone(0, 1), 20);
            due("999", x.alone(0, 999), 19980);
            due("1000", x.alone(0, 1000), OUTSIDE);
            says("each STEP of its LENGTH after a BEAT");
            due("1 by 9", x.alone(1, 1), 4);
            due("9 by 9", x.alone(1, 9), 4);
            due("10 by 9", x.alone(1, 10), 8);
            due("999 by 9", x.alone(1, 999), 444);
            due("991 by 9", x.alone(1, 991), 444);
            due("990 by 9", x.alone(1, 990), 440);
        }
    }

    // ---- 3 whom with whom

    private static final class Tying {
        static void all() {
            evenNumber();
            sumOrGreatest();
            feetToTie();
            notReached();
            ofSeveral();
            firstWay();
            lastWay();
        }

        static void evenNumber() {
            says("all who run (an even number, 2 at least) by twos");
            ThreeLegs x = new ThreeLegs();
            due("nobody", x.tied(1, 0, -1), STATE);
            for (int p = 0; p < 8; p++) {
                x.run(p, 10, 1, 0);
                due(p + 1 + " run", x.tied(1, 0, -1), p % 2 == 0 ? STATE : 10 * (p + 1) / 2);
            }
            for (int p = 0; p < 8; p++) {
                x.rest(p);
                due(7 - p + " run", x.tied(1, 0, -1), p % 2 == 0 || p == 7 ? STATE : 10 * (7 - p) / 2);
            }
        }

        static void sumOrGreatest() {
            says("the sum of all TIMES (by 0), or the greatest one (by 1), is least");
            // For 9 feet by the lesser LENGTH of 1, 9, 5, 9: 90, 20 or 10.
            ThreeLegs x = of(10, 1, 0, 10, 9, 0, 10, 5, 0, 10, 9, 0);
            due("by -1", x.tied(9, -1, -1), OUTSIDE);
            due("by 0", x.tied(9, 0, -1), 90 + 10);
            due("by 0, A's", x.tied(9, 0, 0), 2);
            due("by 1", x.tied(9, 1, -1), 90);
            due("by 1, A's", x.tied(9, 1, 0), 1);
            due("by 2", x.tied(9, 2, -1), OUTSIDE);
        }

        static void feetToTie() {
            says("TIED: for so many feet: OUTSIDE: feet");
            ThreeLegs x = alike(2);
            due("0", x.tied(0, 0, -1), OUTSIDE);
            due("1", x.tied(1, 0, -1), 10);
            due("999", x.tied(999, 0, -1), 9990);
            due("999, by 1", x.tied(999, 1, -1), 9990);
            due("1000", x.tied(1000, 0, -1), OUTSIDE);
            says("TIED: how much (person = -1), with whom a PERSON");
            due("-2", x.tied(1, 0, -2), UNKNOWN);
            due("0", x.tied(1, 0, 0), 1);
            due("1", x.tied(1, 0, 1), 0);
            due("2", x.tied(1, 0, 2), UNKNOWN);
        }

        static void notReached() {
            says("a PAIR that does not REACH it counts 100000");
            // BEATS 4, 8, 12, 16 without GIVE: no two come on.
            ThreeLegs x = of(4, 1, 0, 8, 1, 0, 12, 1, 0, 16, 1, 0);
            due("both PAIRS", x.tied(1, 0, -1), 200000);
            due("both PAIRS, the greatest one", x.tied(1, 1, -1), 100000);
            due("A's", x.tied(1, 0, 0), 1);
            x.run(3, 4, 1, 0);
            due("one PAIR", x.tied(1, 0, -1), 100000 + 4);
            due("A's", x.tied(1, 0, 0), 3);
            due("one PAIR, the greatest one", x.tied(1, 1, -1), 100000);
            due("A's, by the greatest one", x.tied(1, 1, 0), 1);
            ThreeLegs all = new ThreeLegs();
            for (int p = 0; p < 8; p++) {
                all.run(p, 4 + 2 * p, 9, 0);
            }
            limits(all, 0, 0, 99);
            due("four PAIRS", all.tied(999, 0, -1), 400000);
            due("four PAIRS, the greatest one", all.tied(999, 1, -1), 100000);
            // 500 feet in 999 STEPS with 499 falls are REACHED; 501 are not.
            ThreeLegs late = limits(of(10, 1, 0, 13, 1, 0), 3, 3, 99);
            due("in the last STEP", late.tied(500, 0, -1), 499 * 125 + 13);
            due("not in 999 STEPS", late.tied(501, 0, -1), 100000);
        }

        static void ofSeveral() {
            says("of several the one in which the least PERSON's partner is least, then the next one's, and so on");
            // A and F alone have a BEAT of 20; the four others are alike.
            ThreeLegs x = alike(6);
            x.run(0, 20, 1, 0);
            x.run(5, 20, 1, 0);
            int[] mates = {5, 2, 1, 4, 3, 0};
            for (int p = 0; p < 6; p++) {
                due("with whom " + p, x.tied(3, 0, p), mates[p]);
                due("with whom " + p + ", by the greatest one", x.tied(3, 1, p), mates[p]);
            }
            // C and H are tied by need; so A with B, then D with E, F with G.
            ThreeLegs y = alike(8);
            y.run(2, 20, 1, 0);
            y.run(7, 20, 1, 0);
            int[] others = {1, 0, 7, 4, 3, 6, 5, 2};
            for (int p = 0; p < 8; p++) {
                due("with whom " + p, y.tied(3, 0, p), others[p]);
            }
            // Those who rest are left out: B, D, E, H.
            ThreeLegs z = alike(8);
            for (int p : new int[] {0, 2, 5, 6}) {
                z.rest(p);
            }
            due("B's", z.tied(3, 0, 1), 3);
            due("D's", z.tied(3, 0, 3), 1);
            due("E's", z.tied(3, 0, 4), 7);
            due("H's", z.tied(3, 0, 7), 4);
        }

        static void firstWay() {
            says("of several the one ..: all alike");
            for (int people = 2; people <= 8; people += 2) {
                ThreeLegs x = alike(people);
                for (int p = 0; p < people; p++) {
                    due("of " + people + ", with whom " + p, x.tied(1, 0, p), p ^ 1);
                    due("of " + people + ", with whom " + p + ", by 1", x.tied(1, 1, p), p ^ 1);
                }
            }
        }

        static void lastWay() {
            says("is least: the way that is ranked last");
            for (int people = 2; people <= 8; people += 2) {
                ThreeLegs x = new ThreeLegs();
                int sum = 0;
                for (int p = 0; p < people / 2; p++) {
                    x.run(p, 4 + 5 * p, 1, 0);
                    x.run(people - 1 - p, 4 + 5 * p, 1, 0);
                    sum += 4 + 5 * p;
                }
                due("of " + people + ": sum", x.tied(1, 0, -1), sum);
                due("of " + people + ": greatest", x.tied(1, 1, -1), 4 + 5 * (people / 2 - 1));
                for (int p = 0; p < people; p++) {
                    due("of " + people + ", with whom " + p, x.tied(1, 0, p), people - 1 - p);
                    due("of " + people + ", with whom " + p + ", by 1", x.tied(1, 1, p), people - 1 - p);
                }
            }
        }
    }

    // ---- 3 how: what is tried

    private static final class Trials {
        static void all() {
            calledBeat();
            calledFeet();
            firstQuickening();
            lastQuickening();
            notQuickened();
            beatsOfFour();
            quickenedFeet();
            givesOfNothing();
            givesOfAll();
            givesTheLeast();
            yieldedFeet();
            practiceOfNothing();
            practiceAtMost();
            practiceTheLeast();
            practiceByNone();
            practicedSteps();
            tightScarf();
            looseScarf();
            scarfInTime();
            evenNothing();
            evenAll();
            evenNoLater();
            evenNone();
            evenFeet();
        }

        static void calledBeat() {
            // Of one BEAT they are never APART: so 4 is always the soonest, and NONE never is due.
            says("CALL: a common BEAT (4 to 20) .. the least; its TIME");
            ThreeLegs x = limits(of(20, 9, 4, 9, 9, 0), 0, 0, 99);
            both("9 feet", x.call(0, 1, 9, 0), x.call(0, 1, 9, 1), 4, 4);
            both("10 feet", x.call(0, 1, 10, 0), x.call(0, 1, 10, 1), 4, 8);
            due("their own BEATS stay", x.told(10) * 100 + x.told(20), 2009);
        }

        static void calledFeet() {
            says("CALL: so many feet; the BEAT (what = 0), the TIME (1)");
            ThreeLegs x = alike(2);
            due("0", x.call(0, 1, 0, 0), OUTSIDE);
            both("1", x.call(0, 1, 1, 0), x.call(0, 1, 1, 1), 4, 4);
            both("999, in the last STEP", x.call(0, 1, 999, 0), x.call(0, 1, 999, 1), 4, 3996);
            due("1000", x.call(0, 1, 1000, 0), OUTSIDE);
            due("what -1", x.call(0, 1, 1, -1), OUTSIDE);
            due("what 2", x.call(0, 1, 1, 2), OUTSIDE);
        }

        static void firstQuickening() {
            says("from STEP k on (k 0 to 60, counted from 0) BEATS of both are a tenth less");
            ThreeLegs x = alike(2);
            both("k 0", x.quicken(0, 1, 1, 0), x.quicken(0, 1, 1, 1), 0, 9);
            both("k 0", x.quicken(0, 1, 10, 0), x.quicken(0, 1, 10, 1), 0, 90);
            // 12 and 10 fall at STEP 0 by 2, and so do 11 and 9.
            ThreeLegs y = limits(of(12, 1, 4, 10, 1, 4), 0, 1, 0);
            both("by none", y.quicken(0, 1, 1, 0), y.quicken(0, 1, 1, 1), NONE, NONE);
        }

        static void lastQuickening() {
            says("k 0 to 60: k 60, the last one");
            // APART 4 (on), 8, 12, 16, 20: a cycle of 5 STEPS in 120, 3 feet in each; quickened, by 3, one of 7 STEPS.
            ThreeLegs x = limits(of(4, 8, 0, 8, 3, 0), 4, 19, 80);
            both("STEP 60 is the first of the 13th cycle", x.quicken(0, 1, 39, 0), x.quicken(0, 1, 39, 1), 60,
                12 * 120 + 7);
            both("STEP 65 is the first of the 14th", x.quicken(0, 1, 42, 0), x.quicken(0, 1, 42, 1), 61,
                13 * 120 + 8);
            both("STEP 55 is the first of the 12th", x.quicken(0, 1, 36, 0), x.quicken(0, 1, 36, 1), 55,
                11 * 120 + 7);
        }

        static void notQuickened() {
            says("not quickened at all counts as k 61, last");
            // As they are 4 and 8 fall at STEP 4 by 20, in 120; with FALL 16 quickened ones at STEP 5 by 18, in 122.
            ThreeLegs x = limits(of(4, 8, 0, 8, 3, 0), 4, 16, 80);
            both("better not", x.quicken(0, 1, 54, 0), x.quicken(0, 1, 54, 1), 61, 17 * 120 + 8);
            // The TIME of 61 is that of 0 to 60, too: then it is the first.
            both("as good as not", limits(of(4, 1, 0, 4, 1, 0), 0, 0, 0).quicken(0, 1, 99, 0),
                limits(of(4, 1, 0, 4, 1, 0), 0, 0, 0).quicken(0, 1, 99, 1), 0, 396);
        }

        static void beatsOfFour() {
            says("BEATS of both are a tenth less (4 at least): k .. the first");
            ThreeLegs x = limits(of(4, 1, 0, 5, 1, 0), 0, 0, 0);
            both("4 and 5 become 4 and 4", x.quicken(0, 1, 10, 0), x.quicken(0, 1, 10, 1), 0, 40);
            both("from the other side", x.quicken(1, 0, 10, 0), x.quicken(1, 0, 10, 1), 0, 40);
            both("5 and 5 become 4 and 4", of(5, 1, 0, 5, 1, 0).quicken(0, 1, 10, 0),
                of(5, 1, 0, 5, 1, 0).quicken(0, 1, 10, 1), 0, 40);
            both("4 and 4 stay", of(4, 1, 0, 4, 1, 0).quicken(0, 1, 10, 0),
                of(4, 1, 0, 4, 1, 0).quicken(0, 1, 10, 1), 0, 40);
            both("20 and 20 become 19 and 19", of(20, 1, 0, 20, 1, 0).quicken(0, 1, 10, 0),
                of(20, 1, 0, 20, 1, 0).quicken(0, 1, 10, 1), 0, 190);
        }

        static void quickenedFeet() {
            says("QUICKEN: so many feet; k (what = 0), the TIME (1)");
            ThreeLegs x = alike(2);
            due("0", x.quicken(0, 1, 0, 0), OUTSIDE);
            both("999, in the last STEP", x.quicken(0, 1, 999, 0), x.quicken(0, 1, 999, 1), 0, 8991);
            due("1000", x.quicken(0, 1, 1000, 0), OUTSIDE);
            due("what -1", x.quicken(0, 1, 1, -1), OUTSIDE);
            due("what 2", x.quicken(0, 1, 1, 2), OUTSIDE);
        }

        static void givesOfNothing() {
            says("YIELD: GIVES of both (0 to 4 each): 0 and 0");
            ThreeLegs x = limits(of(10, 1, 4, 10, 1, 4), 0, 0, 0);
            both("nobody need give", x.yields(0, 1, 9, 0), x.yields(0, 1, 9, 1), 0, 90);
            due("their own GIVES stay", x.told(12) + x.told(22), 8);
        }

        static void givesOfAll() {
            says("YIELD: GIVES of both (0 to 4 each): 4 and 4");
            // An APART of 1 is made good by GIVES of 4 alone: by both, 4, 5 becomes 9, 9.
            ThreeLegs x = limits(of(4, 1, 0, 5, 1, 0), 0, 5, 90);
            both("both give all", x.yields(0, 1, 1, 0), x.yields(0, 1, 1, 1), 44, 9);
            both("both give all", x.yields(1, 0, 6, 0), x.yields(1, 0, 6, 1), 44, 54);
        }

        static void givesTheLeast() {
            says("10 times the first one's and the other one's, the least");
            // FALL 1: with 04 B hurries: 8 and 9, TIME 9; with 40 A waits: 9 and 10; less than 4 is nothing.
            ThreeLegs x = limits(of(4, 1, 0, 5, 1, 0), 1, 1, 90);
            both("the other one gives", x.yields(0, 1, 2, 0), x.yields(0, 1, 2, 1), 4, 9);
            both("the first one gives", x.yields(1, 0, 2, 0), x.yields(1, 0, 2, 1), 40, 9);
            both("of all 25 the least", x.yields(0, 1, 1, 0), x.yields(0, 1, 1, 1), 0, 5);
            says("YIELD: NONE: by none");
            ThreeLegs y = limits(of(4, 1, 0, 5, 1, 0), 0, 0, 90);
            both("they fall at STEP 0", y.yields(0, 1, 1, 0), y.yields(0, 1, 1, 1), NONE, NONE);
        }

        static void yieldedFeet() {
            says("YIELD: so many feet; GIVES (what = 0), the TIME (1)");
            ThreeLegs x = alike(2);
            due("0", x.yields(0, 1, 0, 0), OUTSIDE);
            both("1", x.yields(0, 1, 1, 0), x.yields(0, 1, 1, 1), 0, 10);
            both("999, in the last STEP", x.yields(0, 1, 999, 0), x.yields(0, 1, 999, 1), 0, 9990);
            due("1000", x.yields(0, 1, 1000, 0), OUTSIDE);
            due("what -1", x.yields(0, 1, 1, -1), OUTSIDE);
            due("what 2", x.yields(0, 1, 1, 2), OUTSIDE);
            // 499 feet in 998 STEPS by 44; 500 by none.
            ThreeLegs y = limits(of(4, 1, 0, 5, 1, 0), 0, 5, 90);
            both("499", y.yields(0, 1, 499, 0), y.yields(0, 1, 499, 1), 44, 499 * 9);
            both("500", y.yields(0, 1, 500, 0), y.yields(0, 1, 500, 1), NONE, NONE);
        }

        static void practiceOfNothing() {
            says("PRACTICE: the least sum of what must be added: nothing");
            ThreeLegs x = limits(of(10, 1, 2, 10, 1, 3), 0, 0, 0);
            both("they never fall", x.practice(0, 1, 999, 0), x.practice(0, 1, 999, 1), 0, 23);
            both("named otherwise", x.practice(1, 0, 999, 0), x.practice(1, 0, 999, 1), 0, 32);
            ThreeLegs y = limits(of(4, 1, 4, 20, 1, 4), 0, 16, 0);
            both("both give all", y.practice(0, 1, 999, 0), y.practice(0, 1, 999, 1), 0, 44);
        }

        static void practiceAtMost() {
            // By trial of all BEATS, GIVES and FALLS: a sum of 4 is always enough, if they do not fall at STEP 0.
            says("what must be added to GIVES of both (4 at most each)");
            // FALL 1, an APART of 1: one of them must give all.
            ThreeLegs x = limits(of(4, 1, 0, 5, 1, 0), 0, 1, 0);
            both("4 in all", x.practice(0, 1, 999, 0), x.practice(0, 1, 999, 1), 4, 4);
            x.run(0, 4, 1, 3);
            both("1 in all", x.practice(0, 1, 999, 0), x.practice(0, 1, 999, 1), 1, 40);
            x.run(1, 5, 1, 3);
            both("1 in all, by the other one", x.practice(0, 1, 999, 0), x.practice(0, 1, 999, 1), 1, 34);
            x.run(0, 4, 1, 4);
            both("nothing", x.practice(0, 1, 999, 0), x.practice(0, 1, 999, 1), 0, 43);
            due("their own GIVES stay", x.told(12) * 10 + x.told(22), 43);
        }

        static void practiceTheLeast() {
            says("the GIVES then (10 times and), the least");
            // 10, 13 with FALL 5: 3 in all, by 03, 12, 21 or 30.
            ThreeLegs x = of(10, 3, 0, 13, 2, 0);
            both("03", x.practice(0, 1, 20, 0), x.practice(0, 1, 20, 1), 3, 3);
            both("03, named otherwise", x.practice(1, 0, 20, 0), x.practice(1, 0, 20, 1), 3, 3);
        }

        static void practiceByNone() {
            says("PRACTICE: NONE: by none");
            ThreeLegs x = limits(of(10, 1, 0, 13, 1, 0), 0, 2, 0);
            both("a fall at STEP 0", x.practice(0, 1, 1, 0), x.practice(0, 1, 1, 1), NONE, NONE);
            both("a fall at STEP 0, but no STEP", x.practice(0, 1, 0, 0), x.practice(0, 1, 0, 1), 0, 0);
            x.run(0, 10, 1, 4);
            x.run(1, 13, 1, 4);
            both("nothing can be added", x.practice(0, 1, 999, 0), x.practice(0, 1, 999, 1), NONE, NONE);
            x.set(1, 3);
            both("nor need be", x.practice(0, 1, 999, 0), x.practice(0, 1, 999, 1), 0, 44);
        }

        static void practicedSteps() {
            says("PRACTICE: so that they do not fall in n STEPS: n 0 to 999");
            // 4, 5 with FALL 20: the first fall is at STEP 20, the 21st.
            ThreeLegs x = limits(of(4, 1, 0, 5, 1, 0), 0, 20, 0);
            due("-1", x.practice(0, 1, -1, 0), OUTSIDE);
            both("0", x.practice(0, 1, 0, 0), x.practice(0, 1, 0, 1), 0, 0);
            both("20", x.practice(0, 1, 20, 0), x.practice(0, 1, 20, 1), 0, 0);
            both("21: GIVE 1 holds them 4 APART", x.practice(0, 1, 21, 0), x.practice(0, 1, 21, 1), 1, 1);
            both("999", x.practice(0, 1, 999, 0), x.practice(0, 1, 999, 1), 1, 1);
            due("1000", x.practice(0, 1, 1000, 0), OUTSIDE);
            due("what -1", x.practice(0, 1, 1, -1), OUTSIDE);
            due("what 2", x.practice(0, 1, 1, 2), OUTSIDE);
        }

        static void tightScarf() {
            says("SCARF: the least LURCH (0 to FALL): 0");
            ThreeLegs x = limits(of(10, 1, 0, 10, 1, 0), 9, 20, 90);
            due("of one BEAT", x.scarf(0, 1, 9, 90), 0);
            due("LURCH stays", x.told(2), 9);
            ThreeLegs y = limits(of(10, 1, 0, 10, 1, 0), 0, 0, 90);
            due("FALL 0", y.scarf(0, 1, 9, 90), 0);
            due("FALL 0, APART 1", limits(of(10, 1, 0, 11, 1, 0), 0, 0, 90).scarf(0, 1, 1, 9999), NONE);
        }

        static void looseScarf() {
            says("SCARF: the least LURCH (0 to FALL): as FALL");
            // APART 1, 2, .., 20 in 20 STEPS of 5; the next one is a fall.
            ThreeLegs x = limits(of(4, 1, 0, 5, 1, 0), 2, 20, 90);
            due("FALL 20, 20 feet", x.scarf(0, 1, 20, 100), 20);
            due("FALL 20, 19 feet", x.scarf(0, 1, 19, 95), 19);
            due("FALL 20, 10 feet: above 9", x.scarf(0, 1, 10, 50), 10);
            due("FALL 20, 21 feet", x.scarf(0, 1, 21, 105), NONE);
            due("LURCH stays", x.told(2), 2);
            x.set(1, 19);
            due("FALL 19, 20 feet", x.scarf(0, 1, 20, 100), NONE);
            due("FALL 19, 19 feet", x.scarf(0, 1, 19, 95), 19);
        }

        static void scarfInTime() {
            says("SCARF: within a TIME (0 to 9999)");
            ThreeLegs x = alike(2);
            due("-1", x.scarf(0, 1, 1, -1), OUTSIDE);
            due("0", x.scarf(0, 1, 1, 0), NONE);
            due("9: a tenth too late", x.scarf(0, 1, 1, 9), NONE);
            due("10: just so", x.scarf(0, 1, 1, 10), 0);
            due("9989 for 999 feet", x.scarf(0, 1, 999, 9989), NONE);
            due("9990 for 999 feet", x.scarf(0, 1, 999, 9990), 0);
            due("9999", x.scarf(0, 1, 999, 9999), 0);
            due("10000", x.scarf(0, 1, 999, 10000), OUTSIDE);
            due("0 feet", x.scarf(0, 1, 0, 9999), OUTSIDE);
            due("1000 feet", x.scarf(0, 1, 1000, 9999), OUTSIDE);
            ThreeLegs y = of(20, 1, 0, 20, 1, 0);
            due("499 feet in 9980", y.scarf(0, 1, 499, 9999), 0);
            due("500 feet in 10000", y.scarf(0, 1, 500, 9999), NONE);
            // LURCH 0 takes 9, LURCH 1 takes 5.
            ThreeLegs z = of(4, 1, 4, 5, 1, 4);
            due("9: tight is enough", z.scarf(0, 1, 1, 9), 0);
            due("8: a looser one", z.scarf(0, 1, 1, 8), 1);
            due("4: none", z.scarf(0, 1, 1, 4), NONE);
        }

        static void evenNothing() {
            says("EVEN: the fewest feet (0 to all of them): 0");
            ThreeLegs x = of(10, 2, 0, 10, 2, 0, 10, 3, 0, 10, 3, 0);
            due("they are quicker", x.even(2, 3, 0, 1, 30), 0);
            due("they are as quick", x.even(0, 1, 0, 1, 30), 0);
            due("one STEP each", x.even(0, 1, 2, 3, 2), 0);
        }

        static void evenAll() {
            says("EVEN: (0 to all of them) .. (of 0 feet left: TIME 0)");
            ThreeLegs x = of(20, 9, 0, 20, 9, 0, 10, 3, 0, 10, 3, 0, 4, 9, 0);
            due("3 feet in 10: no STEP of 20", x.even(0, 1, 2, 3, 3), 3);
            due("6 feet in 20: a STEP of 20", x.even(0, 1, 2, 3, 6), 0);
            due("1 foot", x.even(0, 1, 2, 3, 1), 1);
            due("who never come on", x.even(0, 4, 2, 3, 999), 999);
        }

        static void evenNoLater() {
            says("it is there no later than another PAIR");
            // C and D: 33 feet by 3 in 11 STEPS of 10; E and F: of 9; A and B by 2 in STEPS of 10.
            ThreeLegs x = of(10, 2, 0, 10, 2, 0, 10, 3, 0, 10, 3, 0, 9, 3, 0, 9, 3, 0);
            due("at 110 just as they", x.even(0, 1, 2, 3, 33), 33 - 22);
            due("at 99 it is at 90", x.even(0, 1, 4, 5, 33), 33 - 18);
            due("at 90 just as they", x.even(0, 1, 4, 5, 30), 30 - 18);
        }

        static void evenNone() {
            says("EVEN: NONE: the other one does not REACH it");
            ThreeLegs x = of(10, 1, 0, 10, 1, 0, 4, 1, 0, 20, 1, 0);
            due("they never come on", x.even(0, 1, 2, 3, 1), NONE);
            due("neither do the first", x.even(2, 3, 2, 3, 1), NONE);
            due("the first alone do not", x.even(2, 3, 0, 1, 1), 1);
            // 499 feet in 998 STEPS; 500 in 1000.
            ThreeLegs y = limits(of(20, 1, 0, 20, 1, 0, 4, 1, 4, 5, 1, 4), 0, 5, 90);
            due("499 feet at 4491: 224 STEPS of 20", y.even(0, 1, 2, 3, 499), 499 - 224);
            due("500 feet", y.even(0, 1, 2, 3, 500), NONE);
        }

        static void evenFeet() {
            says("EVEN: a PAIR .. less than so many");
            ThreeLegs x = of(10, 1, 0, 10, 1, 0, 5, 1, 0, 5, 1, 0);
            due("0", x.even(0, 1, 2, 3, 0), OUTSIDE);
            due("1", x.even(0, 1, 2, 3, 1), 1);
            due("2", x.even(0, 1, 2, 3, 2), 1);
            due("999, in the last STEP", x.even(2, 3, 0, 1, 999), 0);
            due("999 at 4995: 499 STEPS of 10", x.even(0, 1, 2, 3, 999), 500);
            due("1000", x.even(0, 1, 2, 3, 1000), OUTSIDE);
        }
    }

    // ---- 4 films

    private static final class Films {
        static void all() {
            codes();
            fortySigns();
            emptyPad();
            wiped();
            firstFault();
            fourSigns();
            firstStep();
            lastStep();
            notSeen();
            howMany();
            theIth();
            fewPeople();
            none();
            ahead();
        }

        static void codes() {
            says("signs (codes 33 to 126)");
            ThreeLegs x = new ThreeLegs();
            due("32", x.say(32), OUTSIDE);
            due("33", x.say(33), 1);
            due("126", x.say(126), 2);
            due("127", x.say(127), OUTSIDE);
            due("a code and 65536, no such char", x.say('s' + 65536), OUTSIDE);
            due("MIN", x.say(MIN), OUTSIDE);
            due("MAX", x.say(MAX), OUTSIDE);
            due("how many", x.told(0), 2);
        }

        static void fortySigns() {
            says("A FILM is a text on a PAD of up to 40 signs");
            ThreeLegs x = alike(2);
            for (int i = 1; i <= 40; i++) {
                due("the " + i + "th", x.say('s'), i);
            }
            due("the 41st", x.say('l'), FULL);
            due("how many", x.told(0), 40);
            due("none was put out by it", x.judge(0, 1), NONE);
            due("all go", x.wipe(), 40);
            due("there is room again", x.say('l'), 1);
        }

        static void emptyPad() {
            says("a PAD without signs");
            ThreeLegs x = of(4, 1, 0, 20, 1, 0);
            due("signs", x.told(0), 0);
            due("wipe", x.wipe(), 0);
            due("no FAULT", x.fault(), NONE);
            due("JUDGED", x.judge(0, 1), NONE);
            due("FITS", x.fits(-1), 1);
            due("FITS", x.fits(0), 1);
        }

        static void wiped() {
            says("Signs go: how many there were");
            ThreeLegs x = shoot(alike(2), "x");
            due("one", x.wipe(), 1);
            due("none", x.wipe(), 0);
            due("nor a FAULT", x.fault(), NONE);
            due("judge", x.judge(0, 1), NONE);
        }

        static void firstFault() {
            says("THE FAULT: the place of the first sign that can not stand there");
            ThreeLegs x = new ThreeLegs();
            due("none", shoot(x, "slf?").fault(), NONE);
            due("place 0", shoot(x, "xsss").fault(), 0);
            due("place 1", shoot(x, "sx").fault(), 1);
            due("the first of several", shoot(x, "slxfx").fault(), 2);
            due("place 39", shoot(x, times('s', 39) + "x").fault(), 39);
            due("none of 40", shoot(x, times('f', 40)).fault(), NONE);
        }

        static void fourSigns() {
            says("s (they come on), l (they lurch), f (they fall), ? (not to be seen)");
            ThreeLegs x = new ThreeLegs();
            for (char sign = 33; sign <= 126; sign++) {
                boolean stands = sign == 's' || sign == 'l' || sign == 'f' || sign == '?';
                due("sign " + sign, shoot(x, "" + sign).fault(), stands ? NONE : 0);
            }
        }

        static void firstStep() {
            says("JUDGED: the first STEP (from 0 on) of the FILM that is not the PAIR's");
            ThreeLegs x = limits(of(10, 1, 0, 13, 1, 0), 3, 6, 90);
            // On by 3, a lurch by 6, a fall by 9, and again.
            due("theirs", shoot(x, "slfslf").judge(0, 1), NONE);
            due("a part of theirs", shoot(x, "sl").judge(0, 1), NONE);
            due("STEP 0", shoot(x, "llf").judge(0, 1), 0);
            due("STEP 0, all of them", shoot(x, "fsl").judge(0, 1), 0);
            due("STEP 1", shoot(x, "ssf").judge(0, 1), 1);
            due("STEP 2", shoot(x, "sll").judge(0, 1), 2);
            due("STEP 3, behind a fall", shoot(x, "slfl").judge(0, 1), 3);
            due("of two the first", shoot(x, "sff?s").judge(0, 1), 1);
        }

        static void lastStep() {
            says("JUDGED: the last of 40 STEPS");
            ThreeLegs x = alike(2);
            due("STEP 39", shoot(x, times('s', 39) + "l").judge(0, 1), 39);
            due("STEP 38", shoot(x, times('s', 38) + "ls").judge(0, 1), 38);
            due("all 40 theirs", shoot(x, times('s', 40)).judge(0, 1), NONE);
        }

        static void notSeen() {
            says("? (not to be seen)");
            ThreeLegs x = limits(of(10, 1, 0, 13, 1, 0), 3, 6, 90);
            due("40 unseen", shoot(x, times('?', 40)).judge(0, 1), NONE);
            due("FITS", x.fits(-1), 1);
            due("some", shoot(x, "?l?s").judge(0, 1), NONE);
            due("others", shoot(x, "s?f").judge(0, 1), NONE);
            due("an unseen STEP counts", shoot(x, "?s").judge(0, 1), 1);
        }

        static void howMany() {
            says("FITS: .. how many (i = -1)");
            ThreeLegs x = new ThreeLegs();
            due("nobody runs", x.fits(-1), 0);
            for (int p = 0; p < 8; p++) {
                x.run(p, 10, 1, 0);
                due(p + 1 + " run", x.fits(-1), p * (p + 1) / 2);
            }
            due("28 of 28", shoot(x, times('s', 40)).fits(-1), 28);
            due("0 of 28", shoot(x, times('s', 39) + "f").fits(-1), 0);
        }

        static void theIth() {
            says("the i-th (10 times the lesser PERSON and the greater; rising)");
            ThreeLegs x = shoot(alike(8), "s");
            int i = 0;
            for (int a = 0; a < 8; a++) {
                for (int b = a + 1; b < 8; b++) {
                    due("the " + i + "th", x.fits(i), 10 * a + b);
                    i++;
                }
            }
            due("one too far", x.fits(28), NONE);
            says("NONE (i below -1, too)");
            due("-2", x.fits(-2), NONE);
            due("MIN", x.fits(MIN), NONE);
            due("MAX", x.fits(MAX), NONE);
        }

        static void fewPeople() {
            says("FITS: PAIRS of all who run");
            ThreeLegs x = new ThreeLegs();
            due("nobody", x.fits(0), NONE);
            x.run(7, 10, 1, 0);
            due("one", x.fits(-1), 0);
            due("one", x.fits(0), NONE);
            x.run(6, 10, 1, 0);
            due("two", x.fits(-1), 1);
            due("two", x.fits(0), 67);
            due("two", x.fits(1), NONE);
            x.rest(6);
            due("one again", x.fits(-1), 0);
        }

        static void none() {
            says("FITS: whose STEPS the FILM can be: none");
            ThreeLegs x = shoot(alike(8), "l");
            due("how many", x.fits(-1), 0);
            due("the first", x.fits(0), NONE);
            x.run(0, 13, 1, 0);
            due("A with each", x.fits(-1), 7);
            due("A with H, the last", x.fits(6), 7);
            due("one too far", x.fits(7), NONE);
        }

        static void ahead() {
            says("FITS: NO: there is a FAULT");
            ThreeLegs x = shoot(alike(8), "sx");
            for (int i : new int[] {-2, -1, 0, 27, 28, MIN, MAX}) {
                due("fits(" + i + ")", x.fits(i), NO);
            }
            due("nobody runs", shoot(new ThreeLegs(), "x").fits(-1), NO);
            due("nobody runs", shoot(new ThreeLegs(), "x").fits(0), NO);
            due("a FAULT behind the first STEP that is not theirs", shoot(x, "fx").fits(-1), NO);
            due("the same of judge", x.judge(0, 1), NO);
        }
    }

    // ---- 4 years

    private static final class Years {
        static void all() {
            seeds();
            races();
            feet();
            ofWhom();
            comesRound();
            drawnOnce();
            bothRun();
            notOne();
            inTheEnd();
            noBest();
        }

        static void seeds() {
            says("A YEAR by a seed (0 to 9999)");
            ThreeLegs x = alike(8);
            due("-1", x.year(-1, 1, 1, -1), OUTSIDE);
            // 74 leaves 2; 9, the 8th part of it, leaves 1: C and B.
            due("0: C", x.year(0, 1, 1, 2), 1);
            due("0: B", x.year(0, 1, 1, 1), 1);
            // 749999 less 11 times 65537 is 29092: 4, and 3636 leaves 4 again.
            due("9999: no race", x.year(9999, 1, 1, -1), 0);
            // 29017 leaves 1, and 3627 leaves 3: B and D.
            due("9998: B", x.year(9998, 1, 1, 1), 1);
            due("9998: D", x.year(9998, 1, 1, 3), 1);
            due("10000", x.year(10000, 1, 1, -1), OUTSIDE);
        }

        static void races() {
            says("of n races (1 to 99)");
            ThreeLegs x = alike(8);
            due("0", x.year(0, 0, 1, -1), OUTSIDE);
            due("1", x.year(0, 1, 1, -1), 1);
            int all = 0;
            long draw = 0;
            for (int i = 0; i < 99; i++) {
                draw = (75 * draw + 74) % 65537;
                all += draw % 8 == draw / 8 % 8 ? 0 : 1;
            }
            due("99", x.year(0, 99, 1, -1), all);
            due("100", x.year(0, 100, 1, -1), OUTSIDE);
        }

        static void feet() {
            says("A YEAR .. of so many feet");
            ThreeLegs x = alike(8);
            due("0", x.year(0, 1, 0, 8), OUTSIDE);
            due("1", x.year(0, 1, 1, 8), 10);
            due("999, in the last STEP", x.year(0, 1, 999, 8), 9990);
            due("1000", x.year(0, 1, 1000, 8), OUTSIDE);
        }

        static void ofWhom() {
            says("races (of = -1), how many times a PERSON (0 to 7), the best TIME (8; NONE)");
            ThreeLegs x = alike(8);
            // 74, 5624, 28652: C and B, A and H, E and F.
            int[] wants = {OUTSIDE, 3, 1, 1, 1, 0, 1, 1, 0, 1, 10, OUTSIDE};
            for (int of = -2; of <= 9; of++) {
                due("of " + of, x.year(0, 3, 1, of), wants[of + 2]);
            }
            due("of MIN", x.year(0, 3, 1, MIN), OUTSIDE);
            due("of MAX", x.year(0, 3, 1, MAX), OUTSIDE);
        }

        static void comesRound() {
            says("x .. becomes (75 x and 74) left over by 65537");
            ThreeLegs x = alike(8);
            // 872: 65474 is still below, leaves 2, and 8184 leaves 0. 873: 65549 leaves 12: 4, and 1.
            due("65474: C", x.year(872, 1, 1, 2), 1);
            due("65474: A", x.year(872, 1, 1, 0), 1);
            due("65549 comes round: E", x.year(873, 1, 1, 4), 1);
            due("65549 comes round: B", x.year(873, 1, 1, 1), 1);
            due("65549 comes round: nobody else", x.year(873, 1, 1, 5), 0);
            // 12 becomes 974: 6, and 121 leaves 1.
            due("goes on from there: G", x.year(873, 2, 1, 6), 1);
            due("goes on from there: B", x.year(873, 2, 1, 1), 2);
        }

        static void drawnOnce() {
            says("x, the seed at first");
            ThreeLegs x = alike(8);
            due("each YEAR anew", x.year(873, 1, 1, 4), 1);
            due("each YEAR anew", x.year(873, 1, 1, 4), 1);
            due("seeds do not mix", x.year(0, 1, 1, 2), 1);
        }

        static void bothRun() {
            says("if both run");
            ThreeLegs x = alike(8);
            x.rest(1);
            due("B rests: no race of C and B", x.year(0, 1, 1, -1), 0);
            due("C", x.year(0, 1, 1, 2), 0);
            due("best TIME", x.year(0, 1, 1, 8), NONE);
            due("two of three races are left", x.year(0, 3, 1, -1), 2);
            x.run(1, 10, 1, 0);
            x.rest(2);
            due("C rests", x.year(0, 1, 1, -1), 0);
            due("B", x.year(0, 1, 1, 1), 0);
            due("nobody runs", new ThreeLegs().year(0, 99, 1, -1), 0);
        }

        static void notOne() {
            says("and are not one");
            ThreeLegs x = alike(8);
            // 29092 leaves 4, and 3636 leaves 4.
            due("races", x.year(9999, 1, 1, -1), 0);
            due("E", x.year(9999, 1, 1, 4), 0);
            due("best TIME", x.year(9999, 1, 1, 8), NONE);
        }

        static void inTheEnd() {
            says("how many times a PERSON was there in the end (REACHED it)");
            ThreeLegs x = alike(8);
            x.run(1, 20, 1, 0);
            due("a race that nobody ends", x.year(0, 1, 1, -1), 1);
            due("B", x.year(0, 1, 1, 1), 0);
            due("C", x.year(0, 1, 1, 2), 0);
            due("A in the next one", x.year(0, 2, 1, 0), 1);
            due("the first of PAIR A and H", x.year(0, 2, 1, 7), 1);
            due("999 feet in the last STEP", x.year(0, 2, 999, 7), 1);
            due("by one who is in two of them", x.year(873, 2, 1, 1), 0);
            x.run(1, 10, 1, 0);
            due("by one who is in two of them", x.year(873, 2, 1, 1), 2);
        }

        static void noBest() {
            says("the best TIME (NONE)");
            ThreeLegs x = alike(8);
            x.run(1, 20, 1, 0);
            due("no race is ended", x.year(0, 1, 1, 8), NONE);
            due("one is ended", x.year(0, 2, 1, 8), 10);
            x.run(4, 9, 1, 0);
            x.run(5, 9, 1, 0);
            due("the best of two", x.year(0, 3, 1, 8), 9);
            x.run(4, 11, 1, 0);
            x.run(5, 11, 1, 0);
            due("the best of two, the earlier one", x.year(0, 3, 1, 8), 10);
        }
    }

    // ---- images, what is told

    private static final class Kept {
        static void all() {
            twoImages();
            notKept();
            emptyImage();
            butThePad();
            asItWasThen();
            toldNumbers();
            bits();
            signs();
        }

        static void twoImages() {
            says("kept in an IMAGE (0, 1): 1");
            ThreeLegs x = of(10, 3, 0);
            for (int n : new int[] {-1, 2, MIN, MAX}) {
                due("image " + n, x.image(n), OUTSIDE);
                due("restore " + n, x.restore(n), OUTSIDE);
            }
            due("image 0", x.image(0), 1);
            x.run(1, 10, 3, 0);
            due("image 1", x.image(1), 1);
            x.run(2, 10, 3, 0);
            due("restore 0", x.restore(0), 1);
            due("one ran", x.told(1), 1);
            due("restore 1", x.restore(1), 1);
            due("two ran", x.told(1), 3);
            due("restore 0 once more", x.restore(0), 1);
            due("one ran", x.told(1), 1);
        }

        static void notKept() {
            says("STATE: it was not");
            ThreeLegs x = of(10, 3, 0);
            due("neither", x.restore(0), STATE);
            due("neither", x.restore(1), STATE);
            x.image(1);
            due("the other one", x.restore(0), STATE);
            due("that one", x.restore(1), 1);
            ThreeLegs y = of(10, 3, 0);
            y.image(0);
            due("the other one", y.restore(1), STATE);
            due("that one", y.restore(0), 1);
            y.image(2);
            due("a refused one does not count", y.restore(1), STATE);
        }

        static void emptyImage() {
            says("It is as it was when it was kept: a new object");
            ThreeLegs x = new ThreeLegs();
            x.image(0);
            limits(x, 9, 20, 0);
            for (int p = 0; p < 8; p++) {
                x.run(p, 10, 1, 0);
            }
            due("restore", x.restore(0), 1);
            due("who runs", x.told(1), 0);
            due("LURCH", x.told(2), 2);
            due("FALL", x.told(3), 5);
            due("UP", x.told(4), 90);
            due("nobody to rest", x.rest(0), UNKNOWN);
            due("FITS", x.fits(-1), 0);
        }

        static void butThePad() {
            says("All but the PAD is kept");
            ThreeLegs x = shoot(alike(2), "ss");
            x.image(0);
            shoot(x, times('s', 40));
            x.restore(0);
            due("a full PAD stays", x.told(0), 40);
            due("and is full", x.say('s'), FULL);
            x.wipe();
            x.restore(0);
            due("an empty PAD stays", x.told(0), 0);
            shoot(x, "sx");
            x.restore(0);
            due("a FAULT stays", x.fault(), 1);
        }

        static void asItWasThen() {
            says("It is as it was when it was kept");
            ThreeLegs x = limits(of(10, 3, 0, 13, 2, 4), 3, 6, 50);
            x.image(1);
            due("kept", x.pair(0, 1, 999, 0), 999 * 10 + 3);
            due("kept", x.pair(0, 1, 999, 1), 999 * 2);
            limits(x, 0, 0, 99);
            x.run(0, 20, 9, 4);
            x.rest(1);
            x.restore(1);
            due("as then", x.pair(0, 1, 999, 0), 999 * 10 + 3);
            due("as then", x.pair(0, 1, 999, 1), 999 * 2);
            int[][] wants = {{1, 3}, {2, 3}, {3, 6}, {4, 50}, {10, 10}, {11, 3}, {12, 0}, {20, 13}, {21, 2}, {22, 4}};
            for (int[] want : wants) {
                due("told " + want[0], x.told(want[0]), want[1]);
            }
            x.run(0, 20, 9, 4);
            x.restore(1);
            due("once more, though it changed behind it", x.pair(0, 1, 999, 0), 999 * 10 + 3);
            x.rest(0);
            x.image(1);
            x.run(0, 10, 3, 0);
            x.restore(1);
            due("the one kept last", x.told(1), 2);
        }

        static void toldNumbers() {
            says("10 times (1 and a PERSON who runs): and 0 BEAT, 1 LENGTH, 2 GIVE");
            ThreeLegs x = new ThreeLegs();
            x.run(0, 4, 9, 3);
            x.run(7, 20, 1, 4);
            int[][] wants = {{10, 4}, {11, 9}, {12, 3}, {80, 20}, {81, 1}, {82, 4}};
            for (int[] want : wants) {
                due("told " + want[0], x.told(want[0]), want[1]);
            }
            for (int what : new int[] {5, 6, 7, 8, 9, 13, 19, 20, 70, 79, 83, 89, 90, 91, 92, 100, 810}) {
                due("told " + what, x.told(what), OUTSIDE);
            }
            for (int what : new int[] {-1, -2, -9, -10, -11, MIN, MAX}) {
                due("told " + what, x.told(what), OUTSIDE);
            }
        }

        static void bits() {
            says("1 who runs (bits)");
            ThreeLegs x = new ThreeLegs();
            due("nobody", x.told(1), 0);
            for (int p = 0; p < 8; p++) {
                x.run(p, 10, 1, 0);
                due("0 to " + p, x.told(1), (2 << p) - 1);
            }
            for (int p = 0; p < 8; p++) {
                x.rest(p);
                due("those behind " + p, x.told(1), 255 & -(2 << p));
            }
        }

        static void signs() {
            says("0 signs, .. 2 LURCH, 3 FALL, 4 UP");
            ThreeLegs x = new ThreeLegs();
            due("none", x.told(0), 0);
            x.say('s');
            due("one", x.told(0), 1);
            shoot(x, times('s', 40));
            due("40", x.told(0), 40);
            limits(x, 0, 0, 0);
            due("the least", x.told(2) + x.told(3) + x.told(4), 0);
            limits(x, 9, 20, 99);
            due("LURCH", x.told(2), 9);
            due("FALL", x.told(3), 20);
            due("UP", x.told(4), 99);
        }
    }
}

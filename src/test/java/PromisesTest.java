/** A test or more for each promise of the document, with answers worked out by hand. */
public final class PromisesTest {
    private static final int UNKNOWN = -1, OUTSIDE = -2, STATE = -3, FULL = -4, NO = -5, NONE = -6;
    private static final int MIN = Integer.MIN_VALUE, MAX = Integer.MAX_VALUE;

    private static int wrong = 0;

    private static void due(String call, int got, int want) {
        if (got != want) {
            wrong++;
            System.out.println(call + " answered " + got + ", due is " + want);
        }
    }

    public static void main(String[] args) {
        constants();
        aNewObject();
        runs();
        rests();
        sets();
        pairs();
        pairsThatGive();
        reaches();
        whoFell();
        alones();
        tiedBySum();
        tiedByWorst();
        tiedRefused();
        calls();
        quickens();
        yieldings();
        practices();
        scarves();
        evens();
        signs();
        faults();
        judges();
        fittings();
        years();
        images();
        tellings();
        System.out.println(wrong == 0 ? "all answers are as due" : wrong + " answers are not as due");
        if (wrong != 0) {
            System.exit(1);
        }
    }

    /** A and B drift a tenth by three: they lurch by 3 at STEP 0 and fall by 6 at STEP 1. */
    private static ThreeLegs drifting() {
        ThreeLegs x = new ThreeLegs();
        x.run(0, 10, 3, 0);
        x.run(1, 13, 2, 0);
        return x;
    }

    private static ThreeLegs ofOneBeat(int... lengths) {
        ThreeLegs x = new ThreeLegs();
        for (int i = 0; i < lengths.length; i++) {
            x.run(i, 10, lengths[i], 0);
        }
        return x;
    }

    private static void shoot(ThreeLegs x, String film) {
        x.wipe();
        for (int i = 0; i < film.length(); i++) {
            x.say(film.charAt(i));
        }
    }

    private static void constants() {
        due("UNKNOWN", ThreeLegs.UNKNOWN, UNKNOWN);
        due("OUTSIDE", ThreeLegs.OUTSIDE, OUTSIDE);
        due("STATE", ThreeLegs.STATE, STATE);
        due("FULL", ThreeLegs.FULL, FULL);
        due("NO", ThreeLegs.NO, NO);
        due("NONE", ThreeLegs.NONE, NONE);
    }

    private static void aNewObject() {
        ThreeLegs x = new ThreeLegs();
        due("new told(0)", x.told(0), 0);
        due("new told(1)", x.told(1), 0);
        due("new told(2)", x.told(2), 2);
        due("new told(3)", x.told(3), 5);
        due("new told(4)", x.told(4), 90);
        due("new wipe()", x.wipe(), 0);
        due("new fault()", x.fault(), NONE);
        due("new fits(-1)", x.fits(-1), 0);
        for (int i = 0; i < 8; i++) {
            due("new rest", x.rest(i), UNKNOWN);
            due("new alone", x.alone(i, 1), UNKNOWN);
            due("new told", x.told(10 + 10 * i), OUTSIDE);
        }
        due("new restore(0)", x.restore(0), STATE);
        due("new restore(1)", x.restore(1), STATE);
        x.run(0, 4, 1, 0);
        due("objects do not share", new ThreeLegs().told(1), 0);
    }

    private static void runs() {
        ThreeLegs x = new ThreeLegs();
        due("run least", x.run(0, 4, 1, 0), 1);
        due("run most", x.run(7, 20, 9, 4), 2);
        due("run otherwise", x.run(0, 5, 2, 3), 2);
        due("its BEAT", x.told(10), 5);
        due("its LENGTH", x.told(11), 2);
        due("its GIVE", x.told(12), 3);
        due("run(-1)", x.run(-1, 4, 1, 0), UNKNOWN);
        due("run(8)", x.run(8, 4, 1, 0), UNKNOWN);
        due("run(8), all outside", x.run(8, 99, 99, 99), UNKNOWN);
        due("run(MIN)", x.run(MIN, 4, 1, 0), UNKNOWN);
        due("run(MAX)", x.run(MAX, 4, 1, 0), UNKNOWN);
        due("BEAT 3", x.run(0, 3, 1, 0), OUTSIDE);
        due("BEAT 21", x.run(0, 21, 1, 0), OUTSIDE);
        due("LENGTH 0", x.run(0, 4, 0, 0), OUTSIDE);
        due("LENGTH 10", x.run(0, 4, 10, 0), OUTSIDE);
        due("GIVE -1", x.run(0, 4, 1, -1), OUTSIDE);
        due("GIVE 5", x.run(0, 4, 1, 5), OUTSIDE);
        due("refused run of one who did not", x.run(3, 4, 1, 5), OUTSIDE);
        due("nobody came", x.told(1), 129);
        due("BEAT as before", x.told(10), 5);
        due("LENGTH as before", x.told(11), 2);
        due("GIVE as before", x.told(12), 3);
    }

    private static void rests() {
        ThreeLegs x = ofOneBeat(1, 2, 3);
        due("rest(1)", x.rest(1), 2);
        due("rest(1) again", x.rest(1), UNKNOWN);
        due("rest(-1)", x.rest(-1), UNKNOWN);
        due("rest(8)", x.rest(8), UNKNOWN);
        due("rest(MIN)", x.rest(MIN), UNKNOWN);
        due("rest(MAX)", x.rest(MAX), UNKNOWN);
        due("who runs", x.told(1), 5);
        due("pair with one who rests", x.pair(0, 1, 1, 0), UNKNOWN);
        due("run once more", x.run(1, 7, 8, 1), 3);
        due("its BEAT", x.told(20), 7);
    }

    private static void sets() {
        ThreeLegs x = new ThreeLegs();
        due("LURCH 5, as FALL", x.set(0, 5), 2);
        due("LURCH above FALL", x.set(0, 6), OUTSIDE);
        due("FALL below LURCH", x.set(1, 4), OUTSIDE);
        due("FALL as LURCH", x.set(1, 5), 5);
        due("FALL 20", x.set(1, 20), 5);
        due("FALL 21", x.set(1, 21), OUTSIDE);
        due("LURCH 9", x.set(0, 9), 5);
        due("LURCH 10", x.set(0, 10), OUTSIDE);
        due("LURCH -1", x.set(0, -1), OUTSIDE);
        due("LURCH 0", x.set(0, 0), 9);
        due("FALL -1", x.set(1, -1), OUTSIDE);
        due("FALL 0", x.set(1, 0), 20);
        due("UP 0", x.set(2, 0), 90);
        due("UP 99", x.set(2, 99), 0);
        due("UP 100", x.set(2, 100), OUTSIDE);
        due("UP -1", x.set(2, -1), OUTSIDE);
        due("set(3)", x.set(3, 0), OUTSIDE);
        due("set(-1)", x.set(-1, 0), OUTSIDE);
        due("set(MAX, MAX)", x.set(MAX, MAX), OUTSIDE);
        due("LURCH", x.told(2), 0);
        due("FALL", x.told(3), 0);
        due("UP", x.told(4), 99);
    }

    private static void pairs() {
        ThreeLegs x = drifting();
        int[][] dueAfter = {{0, 0, 0, 0, 0, 0}, {1, 13, 0, 1, 0, 3}, {2, 116, 0, 1, 1, 0}, {3, 129, 0, 2, 1, 3},
            {999, 499 * 116 + 13, 0, 500, 499, 3}};
        for (int[] row : dueAfter) {
            for (int what = 0; what < 5; what++) {
                due("pair(0, 1, " + row[0] + ", " + what + ")", x.pair(0, 1, row[0], what), row[what + 1]);
                due("pair(1, 0, " + row[0] + ", " + what + ")", x.pair(1, 0, row[0], what), row[what + 1]);
            }
        }
        x.set(0, 3);
        due("APART as LURCH: they come on by the lesser LENGTH", x.pair(0, 1, 1, 1), 2);
        x.set(1, 6);
        due("APART as FALL: they lurch", x.pair(0, 1, 2, 2), 1);
        due("APART as FALL: no fall", x.pair(0, 1, 2, 3), 0);
        due("a fall does not count as a lurch", x.pair(0, 1, 3, 2), 1);
        due("APART above FALL: they fall", x.pair(0, 1, 3, 3), 1);
        due("the fall's TIME", x.pair(0, 1, 3, 0), 39 + 90);
        x.set(2, 7);
        due("the fall's TIME with UP 7", x.pair(0, 1, 3, 0), 39 + 7);
        due("both are one", x.pair(0, 0, 1, 0), UNKNOWN);
        due("other does not run", x.pair(0, 2, 1000, 9), UNKNOWN);
        due("person does not run", x.pair(2, 0, 1000, 9), UNKNOWN);
        due("other -1", x.pair(0, -1, 1, 0), UNKNOWN);
        due("person 8", x.pair(8, 0, 1, 0), UNKNOWN);
        due("MIN and MAX", x.pair(MIN, MAX, MIN, MAX), UNKNOWN);
        due("n -1", x.pair(0, 1, -1, 0), OUTSIDE);
        due("n 1000", x.pair(0, 1, 1000, 0), OUTSIDE);
        due("what -1", x.pair(0, 1, 1, -1), OUTSIDE);
        due("what 5", x.pair(0, 1, 1, 5), OUTSIDE);
    }

    private static void pairsThatGive() {
        ThreeLegs x = new ThreeLegs();
        x.run(0, 10, 1, 1);
        x.run(1, 13, 1, 1);
        x.set(1, 20);
        // 3 by 4 and -3 by 4 are both 0 when cut towards 0.
        due("quotients below 1", x.pair(0, 1, 2, 4), 6);
        // 6 by 4 is 1, -6 by 4 is -1: 20 + 10 + 1 and 26 + 13 - 1.
        due("quotients above 1", x.pair(0, 1, 3, 0), 38);
        due("quotients above 1", x.pair(0, 1, 3, 4), 7);
        x.run(0, 10, 1, 0);
        x.run(1, 13, 1, 4);
        // B hurries after A, whose last TIME is the earlier one: 13 + 13 - 3 against 20.
        due("one gives", x.pair(0, 1, 2, 0), 23);
        due("one gives", x.pair(1, 0, 2, 4), 3);
        x.run(0, 10, 1, 4);
        x.run(1, 13, 1, 0);
        // A waits for B, whose last TIME is the later one: 10 + 10 + 3 against 26.
        due("the other gives", x.pair(0, 1, 2, 4), 3);
        due("the other gives", x.pair(0, 1, 2, 0), 26);
    }

    private static void reaches() {
        ThreeLegs x = ofOneBeat(3, 5);
        due("1 foot: STEP 0", x.reach(0, 1, 1, 0), 0);
        due("1 foot: TIME", x.reach(0, 1, 1, 1), 10);
        due("3 feet", x.reach(0, 1, 3, 0), 0);
        due("4 feet", x.reach(0, 1, 4, 0), 1);
        due("999 feet", x.reach(1, 0, 999, 0), 332);
        due("999 feet: TIME", x.reach(1, 0, 999, 1), 3330);
        x.run(0, 10, 1, 0);
        due("999 feet in the last of 999 STEPS", x.reach(0, 1, 999, 0), 998);
        due("999 feet in the last of 999 STEPS: TIME", x.reach(0, 1, 999, 1), 9990);
        due("feet 0", x.reach(0, 1, 0, 0), OUTSIDE);
        due("feet 1000", x.reach(0, 1, 1000, 0), OUTSIDE);
        due("what 2", x.reach(0, 1, 1, 2), OUTSIDE);
        due("what -1", x.reach(0, 1, 1, -1), OUTSIDE);
        due("both are one", x.reach(1, 1, 1, 0), UNKNOWN);
        due("UNKNOWN ahead of OUTSIDE", x.reach(1, 2, 0, 7), UNKNOWN);
        ThreeLegs y = drifting();
        due("they never come on", y.reach(0, 1, 1, 0), NONE);
        due("they never come on: TIME", y.reach(0, 1, 1, 1), NONE);
        y.set(0, 3);
        // They come on at each second STEP by 2 feet: 500 times within 999 STEPS.
        due("behind a fall", y.reach(0, 1, 3, 0), 2);
        due("behind a fall: TIME", y.reach(0, 1, 3, 1), 129);
        due("999 feet", y.reach(0, 1, 999, 0), 998);
        y.run(1, 13, 1, 0);
        due("500 feet", y.reach(0, 1, 500, 0), 998);
        due("501 feet: not in 999 STEPS", y.reach(0, 1, 501, 0), NONE);
    }

    private static void whoFell() {
        ThreeLegs x = drifting();
        due("the STEP", x.who(0, 1, 0), 1);
        due("A stepped earlier", x.who(0, 1, 1), 0);
        due("whichever is named first", x.who(1, 0, 1), 0);
        x.run(0, 16, 3, 0);
        due("now B did", x.who(0, 1, 1), 1);
        due("now B did", x.who(1, 0, 1), 1);
        x.run(0, 13, 3, 0);
        due("they never fall", x.who(0, 1, 0), NONE);
        due("they never fall", x.who(0, 1, 1), NONE);
        x.set(1, 20);
        x.run(0, 12, 3, 0);
        due("APART by one more each STEP", x.who(0, 1, 0), 20);
        due("what 2", x.who(0, 1, 2), OUTSIDE);
        due("what -1", x.who(0, 1, -1), OUTSIDE);
        due("both are one", x.who(0, 0, 2), UNKNOWN);
        due("nor does one run", x.who(0, 5, 0), UNKNOWN);
    }

    private static void alones() {
        ThreeLegs x = drifting();
        due("1 foot", x.alone(0, 1), 10);
        due("3 feet", x.alone(0, 3), 10);
        due("4 feet", x.alone(0, 4), 20);
        due("59 feet", x.alone(0, 59), 200);
        due("999 feet by 2", x.alone(1, 999), 6500);
        x.run(2, 20, 1, 4);
        due("999 feet by 1", x.alone(2, 999), 19980);
        due("feet 0", x.alone(0, 0), OUTSIDE);
        due("feet -1", x.alone(0, -1), OUTSIDE);
        due("feet 1000", x.alone(0, 1000), OUTSIDE);
        due("one who does not run", x.alone(3, 1000), UNKNOWN);
        due("person -1", x.alone(-1, 1), UNKNOWN);
        due("person 8", x.alone(8, 1), UNKNOWN);
    }

    private static void tiedBySum() {
        // For 9 feet a PAIR of lesser LENGTH 1 takes 90, of 5 takes 20, of 9 takes 10.
        ThreeLegs x = ofOneBeat(1, 9, 5, 9);
        due("least sum", x.tied(9, 0, -1), 100);
        due("A's", x.tied(9, 0, 0), 2);
        due("B's", x.tied(9, 0, 1), 3);
        due("C's", x.tied(9, 0, 2), 0);
        due("D's", x.tied(9, 0, 3), 1);
        ThreeLegs all = ofOneBeat(1, 1, 1, 1, 1, 1, 1, 1);
        due("all alike: sum", all.tied(999, 0, -1), 4 * 9990);
        for (int i = 0; i < 8; i++) {
            due("all alike: neighbours", all.tied(1, 0, i), i ^ 1);
            due("all alike: neighbours, by the worst", all.tied(1, 1, i), i ^ 1);
        }
        // The worst with the worst: 1 and 2, 3 and 4, ... of the LENGTHS.
        ThreeLegs mixed = ofOneBeat(9, 1, 9, 2, 9, 1, 9, 2);
        due("mixed: sum", mixed.tied(18, 0, -1), 180 + 90 + 20 + 20);
        int[] mates = {2, 5, 0, 7, 6, 1, 4, 3};
        for (int i = 0; i < 8; i++) {
            due("mixed: with whom " + i, mixed.tied(18, 0, i), mates[i]);
        }
        ThreeLegs nested = new ThreeLegs();
        for (int i = 0; i < 8; i++) {
            nested.run(i, 4 + 4 * (i < 4 ? i : 7 - i), 1, 0);
        }
        due("the last of all ways: sum", nested.tied(1, 0, -1), 4 + 8 + 12 + 16);
        due("the last of all ways: worst", nested.tied(1, 1, -1), 16);
        for (int i = 0; i < 8; i++) {
            due("the last of all ways: with whom " + i, nested.tied(1, 0, i), 7 - i);
        }
        ThreeLegs some = new ThreeLegs();
        some.run(2, 10, 1, 0);
        some.run(7, 10, 1, 0);
        due("two of them: TIME", some.tied(2, 0, -1), 20);
        due("two of them", some.tied(2, 0, 2), 7);
        due("two of them", some.tied(2, 0, 7), 2);
        due("one who does not run", some.tied(2, 0, 0), UNKNOWN);
    }

    private static void tiedByWorst() {
        ThreeLegs x = ofOneBeat(1, 9, 5, 9);
        due("least worst", x.tied(9, 1, -1), 90);
        due("of several the first", x.tied(9, 1, 0), 1);
        due("of several the first", x.tied(9, 1, 2), 3);
        // Beats 4, 20, 4, 20 without GIVE: only those of one beat ever come on.
        ThreeLegs y = new ThreeLegs();
        for (int i = 0; i < 4; i++) {
            y.run(i, i % 2 == 0 ? 4 : 20, 1, 0);
        }
        due("quick with quick", y.tied(10, 0, -1), 40 + 200);
        due("quick with quick", y.tied(10, 0, 0), 2);
        due("the slow ones' TIME", y.tied(10, 1, -1), 200);
        // Beats 4, 20, 12, 8: no two come on.
        y.run(2, 12, 1, 0);
        y.run(3, 8, 1, 0);
        due("none REACHES it: sum", y.tied(10, 0, -1), 100000 + 100000);
        due("none REACHES it: worst", y.tied(10, 1, -1), 100000);
        due("none REACHES it: A with B", y.tied(10, 0, 0), 1);
        due("none REACHES it: C with D", y.tied(10, 1, 2), 3);
        // Beats 4, 20, 12, 8, 12, 8: A and B are left over.
        y.run(4, 12, 1, 0);
        y.run(5, 8, 1, 0);
        due("some REACH it: sum", y.tied(10, 0, -1), 100000 + 120 + 80);
        due("some REACH it: A with B", y.tied(10, 0, 0), 1);
        due("some REACH it: C with E", y.tied(10, 0, 2), 4);
        due("some REACH it: worst", y.tied(10, 1, -1), 100000);
        due("some REACH it, by the worst: C with D", y.tied(10, 1, 2), 3);
        // Beats 4, 20, 12, 8, 12, 20: A and D are left over.
        y.run(5, 20, 1, 0);
        due("others REACH it: sum", y.tied(10, 0, -1), 100000 + 200 + 120);
        due("others REACH it: A with D", y.tied(10, 0, 0), 3);
        due("others REACH it: B with F", y.tied(10, 0, 1), 5);
        due("others REACH it: C with E", y.tied(10, 0, 2), 4);
    }

    private static void tiedRefused() {
        ThreeLegs x = new ThreeLegs();
        due("nobody runs", x.tied(0, 2, 8), STATE);
        x.run(0, 4, 1, 0);
        due("one runs", x.tied(1, 0, 0), STATE);
        due("STATE ahead of UNKNOWN", x.tied(1, 0, 5), STATE);
        due("STATE ahead of OUTSIDE", x.tied(0, 0, -1), STATE);
        x.run(1, 4, 1, 0);
        due("two run", x.tied(1, 0, 0), 1);
        due("person -2", x.tied(1, 0, -2), UNKNOWN);
        due("person 8", x.tied(1, 0, 8), UNKNOWN);
        due("UNKNOWN ahead of OUTSIDE", x.tied(0, 2, 2), UNKNOWN);
        due("feet 0", x.tied(0, 0, -1), OUTSIDE);
        due("feet 1000", x.tied(1000, 0, -1), OUTSIDE);
        due("by -1", x.tied(1, -1, -1), OUTSIDE);
        due("by 2", x.tied(1, 2, -1), OUTSIDE);
        x.run(2, 4, 1, 0);
        due("three run", x.tied(1, 0, -1), STATE);
    }

    private static void calls() {
        ThreeLegs x = drifting();
        due("BEAT", x.call(0, 1, 20, 0), 4);
        due("TIME", x.call(1, 0, 20, 1), 40);
        due("999 feet", x.call(0, 1, 999, 1), 2000);
        x.set(0, 0);
        x.set(1, 0);
        due("no LURCH is let", x.call(0, 1, 21, 0), 4);
        due("no LURCH is let", x.call(0, 1, 21, 1), 44);
        due("feet 0", x.call(0, 1, 0, 0), OUTSIDE);
        due("feet 1000", x.call(0, 1, 1000, 0), OUTSIDE);
        due("what -1", x.call(0, 1, 1, -1), OUTSIDE);
        due("what 2", x.call(0, 1, 1, 2), OUTSIDE);
        due("both are one", x.call(1, 1, 0, 0), UNKNOWN);
        due("one who does not run", x.call(2, 1, 1, 0), UNKNOWN);
        due("their own BEATS stay", x.told(10), 10);
    }

    private static void quickens() {
        ThreeLegs x = ofOneBeat(1, 1);
        due("from the first STEP on", x.quicken(0, 1, 10, 0), 0);
        due("from the first STEP on: TIME", x.quicken(0, 1, 10, 1), 90);
        due("BEAT 4 stays", setBeats(x, 4, 4).quicken(0, 1, 10, 0), 0);
        due("BEAT 4 stays: TIME", x.quicken(0, 1, 10, 1), 40);
        due("they never come on", drifting().quicken(0, 1, 20, 0), NONE);
        due("they never come on: TIME", drifting().quicken(0, 1, 20, 1), NONE);

        ThreeLegs y = new ThreeLegs();
        y.run(0, 4, 6, 3);
        y.run(1, 17, 2, 3);
        y.set(1, 13);
        y.set(0, 8);
        // 4, 17: a lurch; 17, 25: on; with BEATS 4 and 16 then 27, 35: on. From 0 or 1 on they lurch at STEP 2.
        due("from STEP 2 on", y.quicken(0, 1, 4, 0), 2);
        due("from STEP 2 on: TIME", y.quicken(1, 0, 4, 1), 35);

        ThreeLegs z = new ThreeLegs();
        z.run(0, 4, 8, 0);
        z.run(1, 8, 3, 0);
        z.set(1, 16);
        z.set(0, 4);
        z.set(2, 80);
        // As they are: on, three lurches, a fall by 20: 120 for 3 feet. Quickened: on, four lurches, a fall by 18: 122.
        due("better not", z.quicken(0, 1, 54, 0), 61);
        due("better not: TIME", z.quicken(0, 1, 54, 1), 17 * 120 + 8);
        // With FALL 19 a STEP quickened ahead of a fall puts it off; STEP 60 is the first behind the twelfth one.
        z.set(1, 19);
        due("from the last k on", z.quicken(0, 1, 39, 0), 60);
        due("from the last k on: TIME", z.quicken(0, 1, 39, 1), 12 * 120 + 7);
        due("a later k is not tried", z.quicken(0, 1, 42, 0), 61);
        due("a later k is not tried: TIME", z.quicken(0, 1, 42, 1), 13 * 120 + 8);

        due("feet 0", x.quicken(0, 1, 0, 0), OUTSIDE);
        due("feet 1000", x.quicken(0, 1, 1000, 0), OUTSIDE);
        due("what -1", x.quicken(0, 1, 1, -1), OUTSIDE);
        due("what 2", x.quicken(0, 1, 1, 2), OUTSIDE);
        due("both are one", x.quicken(0, 0, 0, 0), UNKNOWN);
        due("one who does not run", x.quicken(0, 7, 1, 0), UNKNOWN);
        due("their own BEATS stay", z.told(20), 8);
    }

    private static ThreeLegs setBeats(ThreeLegs x, int first, int other) {
        x.run(0, first, 1, 0);
        x.run(1, other, 1, 0);
        return x;
    }

    private static void yieldings() {
        ThreeLegs x = drifting();
        due("GIVES", x.yields(0, 1, 20, 0), 24);
        due("TIME", x.yields(0, 1, 20, 1), 122);
        due("GIVES, the other one first", x.yields(1, 0, 20, 0), 42);
        due("nobody need give", ofOneBeat(2, 3).yields(0, 1, 20, 0), 0);
        due("nobody need give: TIME", ofOneBeat(2, 3).yields(0, 1, 20, 1), 100);
        x.set(0, 0);
        x.set(1, 0);
        due("by none", x.yields(0, 1, 20, 0), NONE);
        due("by none: TIME", x.yields(0, 1, 20, 1), NONE);
        due("feet 0", x.yields(0, 1, 0, 0), OUTSIDE);
        due("feet 1000", x.yields(0, 1, 1000, 0), OUTSIDE);
        due("what -1", x.yields(0, 1, 1, -1), OUTSIDE);
        due("what 2", x.yields(0, 1, 1, 2), OUTSIDE);
        due("both are one", x.yields(0, 0, 0, 0), UNKNOWN);
        due("one who does not run", x.yields(0, 7, 1, 0), UNKNOWN);
        due("their own GIVES stay", x.told(12), 0);
    }

    private static void practices() {
        ThreeLegs x = drifting();
        due("the sum", x.practice(0, 1, 20, 0), 3);
        due("the GIVES: of 03, 12, 21, 30 the least", x.practice(0, 1, 20, 1), 3);
        due("STEP 1 is their first fall", x.practice(0, 1, 1, 0), 0);
        due("to stand at STEP 1, 2 by 4 of 3 is enough", x.practice(0, 1, 2, 0), 2);
        due("to stand at STEP 1: the GIVES", x.practice(0, 1, 2, 1), 2);
        x.run(0, 10, 3, 1);
        x.run(1, 13, 2, 1);
        due("what is to be added", x.practice(0, 1, 20, 0), 1);
        due("added to what there is", x.practice(0, 1, 20, 1), 12);
        x.run(1, 13, 2, 4);
        due("nothing to be added", x.practice(0, 1, 999, 0), 0);
        due("nothing to be added", x.practice(0, 1, 999, 1), 14);
        due("nothing to be added, the other one first", x.practice(1, 0, 999, 1), 41);
        x.set(0, 0);
        x.set(1, 0);
        due("by none: they fall at STEP 0", x.practice(0, 1, 1, 0), NONE);
        due("by none: the GIVES", x.practice(0, 1, 1, 1), NONE);
        due("no STEPS, no falls", x.practice(0, 1, 0, 0), 0);
        due("no STEPS, no falls", x.practice(0, 1, 0, 1), 14);
        due("n -1", x.practice(0, 1, -1, 0), OUTSIDE);
        due("n 1000", x.practice(0, 1, 1000, 0), OUTSIDE);
        due("what -1", x.practice(0, 1, 1, -1), OUTSIDE);
        due("what 2", x.practice(0, 1, 1, 2), OUTSIDE);
        due("both are one", x.practice(0, 0, -1, 0), UNKNOWN);
        due("one who does not run", x.practice(7, 0, 1, 0), UNKNOWN);
    }

    private static void scarves() {
        ThreeLegs x = drifting();
        due("just in TIME", x.scarf(0, 1, 2, 13), 3);
        due("a tenth too late", x.scarf(0, 1, 2, 12), NONE);
        due("two STEPS, one fall between: 129", x.scarf(0, 1, 4, 129), 3);
        due("two STEPS, one fall between: 128", x.scarf(0, 1, 4, 128), NONE);
        x.set(1, 6);
        due("LURCH as FALL is tried", x.scarf(0, 1, 4, 26), 6);
        due("LURCH above FALL is not", x.scarf(0, 1, 6, 39), NONE);
        x.set(1, 20);
        due("APART 3 and 6: both STEPS by LURCH 6", x.scarf(0, 1, 4, 26), 6);
        due("APART 3 to 18: six STEPS by LURCH 18, above 9", x.scarf(0, 1, 12, 78), 18);
        x.set(0, 9);
        due("LURCH as it is does not count", x.scarf(0, 1, 2, 13), 3);
        due("LURCH stays", x.told(2), 9);
        due("LURCH 0", ofOneBeat(1, 1).scarf(0, 1, 999, 9990), 0);
        due("LURCH 0, too late", ofOneBeat(1, 1).scarf(0, 1, 999, 9989), NONE);
        due("TIME 0", x.scarf(0, 1, 1, 0), NONE);
        due("TIME -1", x.scarf(0, 1, 1, -1), OUTSIDE);
        due("TIME 9999", x.scarf(0, 1, 1, 9999), 3);
        due("TIME 10000", x.scarf(0, 1, 1, 10000), OUTSIDE);
        due("feet 0", x.scarf(0, 1, 0, 1), OUTSIDE);
        due("feet 1000", x.scarf(0, 1, 1000, 1), OUTSIDE);
        due("both are one", x.scarf(0, 0, 0, 1), UNKNOWN);
        due("one who does not run", x.scarf(0, 7, 1, 1), UNKNOWN);
    }

    private static void evens() {
        // A PAIR of C and D makes 30 feet by 3 in 100; of A and B 20 feet by 2 in 100.
        ThreeLegs x = ofOneBeat(2, 2, 3, 3);
        due("the slower ones", x.even(0, 1, 2, 3, 30), 10);
        due("the quicker ones", x.even(2, 3, 0, 1, 30), 0);
        due("31 feet in 110", x.even(0, 1, 2, 3, 31), 9);
        due("with themselves", x.even(0, 1, 1, 0, 30), 0);
        due("one in both PAIRS", x.even(0, 2, 2, 3, 30), 10);
        x.run(4, 20, 9, 0);
        x.run(5, 20, 9, 0);
        due("9 feet in 20 against 9 feet in 30", x.even(4, 5, 2, 3, 9), 0);
        due("no STEP in TIME: all feet", x.even(4, 5, 2, 3, 3), 3);
        x.run(6, 4, 9, 0);
        due("the first ones never come on: all feet", x.even(6, 5, 2, 3, 7), 7);
        due("the other ones never come on", x.even(2, 3, 6, 5, 7), NONE);
        due("neither does", x.even(6, 5, 5, 6, 7), NONE);
        due("feet 0", x.even(0, 1, 2, 3, 0), OUTSIDE);
        due("feet 999", x.even(0, 1, 2, 3, 999), 999 - 666);
        due("feet 1000", x.even(0, 1, 2, 3, 1000), OUTSIDE);
        due("both of the first are one", x.even(0, 0, 2, 3, 0), UNKNOWN);
        due("both of the second are one", x.even(0, 1, 3, 3, 0), UNKNOWN);
        due("a does not run", x.even(7, 1, 2, 3, 9), UNKNOWN);
        due("b does not run", x.even(0, 7, 2, 3, 9), UNKNOWN);
        due("c does not run", x.even(0, 1, 7, 3, 9), UNKNOWN);
        due("d does not run", x.even(0, 1, 2, 7, 9), UNKNOWN);
    }

    private static void signs() {
        ThreeLegs x = new ThreeLegs();
        due("say(33)", x.say(33), 1);
        due("say(126)", x.say(126), 2);
        due("say(32)", x.say(32), OUTSIDE);
        due("say(127)", x.say(127), OUTSIDE);
        due("say(MIN)", x.say(MIN), OUTSIDE);
        due("say(MAX)", x.say(MAX), OUTSIDE);
        due("signs", x.told(0), 2);
        for (int i = 3; i <= 40; i++) {
            due("say the " + i + "th", x.say('s'), i);
        }
        due("say the 41st", x.say('s'), FULL);
        due("OUTSIDE ahead of FULL", x.say(32), OUTSIDE);
        due("signs", x.told(0), 40);
        due("wipe()", x.wipe(), 40);
        due("wipe() again", x.wipe(), 0);
        due("signs", x.told(0), 0);
        due("say anew", x.say('l'), 1);
        due("wipe() one", x.wipe(), 1);
    }

    private static void faults() {
        ThreeLegs x = new ThreeLegs();
        shoot(x, "slf?");
        due("all four signs stand", x.fault(), NONE);
        shoot(x, "slf?S");
        due("a capital does not", x.fault(), 4);
        shoot(x, "x");
        due("the first sign", x.fault(), 0);
        shoot(x, "ssxsy");
        due("the first of two", x.fault(), 2);
        shoot(x, "lllllllllllllllllllllllllllllllllllllll!");
        due("the last sign of 40", x.fault(), 39);
        x.wipe();
        due("no signs, no fault", x.fault(), NONE);
        for (int sign = 33; sign <= 126; sign++) {
            shoot(x, "s" + (char) sign);
            due("sign " + sign, x.fault(), sign == 's' || sign == 'l' || sign == 'f' || sign == '?' ? NONE : 1);
        }
    }

    private static void judges() {
        ThreeLegs x = drifting();
        due("no FILM", x.judge(0, 1), NONE);
        shoot(x, "lflf");
        due("theirs", x.judge(0, 1), NONE);
        shoot(x, "?f??");
        due("theirs, hardly seen", x.judge(1, 0), NONE);
        shoot(x, "s");
        due("not STEP 0", x.judge(0, 1), 0);
        shoot(x, "llf");
        due("not STEP 1", x.judge(0, 1), 1);
        shoot(x, "lflfs");
        due("not STEP 4", x.judge(0, 1), 4);
        shoot(x, "lflx");
        due("a FAULT", x.judge(0, 1), NO);
        due("UNKNOWN ahead of NO", x.judge(0, 2), UNKNOWN);
        due("both are one", x.judge(0, 0), UNKNOWN);
        shoot(x, "lf");
        x.set(0, 3);
        due("a looser scarf", x.judge(0, 1), 0);
        shoot(x, "sf");
        due("a looser scarf", x.judge(0, 1), NONE);
    }

    private static void fittings() {
        ThreeLegs x = new ThreeLegs();
        x.run(7, 10, 1, 0);
        x.run(2, 10, 1, 0);
        x.run(4, 13, 1, 0);
        x.run(5, 13, 1, 0);
        due("any without a FILM", x.fits(-1), 6);
        int[] any = {24, 25, 27, 45, 47, 57};
        for (int i = 0; i < 6; i++) {
            due("any, the " + i + "th", x.fits(i), any[i]);
        }
        due("any, one too far", x.fits(6), NONE);
        shoot(x, "ss");
        due("those of one beat", x.fits(-1), 2);
        due("those of one beat", x.fits(0), 27);
        due("those of one beat", x.fits(1), 45);
        due("those of one beat", x.fits(2), NONE);
        shoot(x, "?f");
        due("those of two beats", x.fits(-1), 4);
        due("those of two beats", x.fits(0), 24);
        due("those of two beats", x.fits(3), 57);
        shoot(x, "sf");
        due("nobody", x.fits(-1), 0);
        due("nobody", x.fits(0), NONE);
        due("i -2", x.fits(-2), NONE);
        due("i MIN", x.fits(MIN), NONE);
        due("i MAX", x.fits(MAX), NONE);
        shoot(x, "?z");
        due("a FAULT", x.fits(-1), NO);
        due("a FAULT ahead of NONE", x.fits(-2), NO);
        due("a FAULT ahead of NONE", x.fits(99), NO);
    }

    private static void years() {
        ThreeLegs x = ofOneBeat(1, 1, 1, 1, 1, 1, 1, 1);
        // x: 74, 5624, 28652: C and B, A and H, E and F.
        due("one race", x.year(0, 1, 5, -1), 1);
        due("three races", x.year(0, 3, 5, -1), 3);
        int[] once = {0, 1, 1, 0, 0, 0, 0, 0};
        int[] then = {1, 1, 1, 0, 1, 1, 0, 1};
        for (int i = 0; i < 8; i++) {
            due("in one race", x.year(0, 1, 5, i), once[i]);
            due("in three races", x.year(0, 3, 5, i), then[i]);
        }
        due("best TIME", x.year(0, 3, 5, 8), 50);
        // x: 29092 left over by 8 is 4, and by 8 so again.
        due("with oneself: no race", x.year(9999, 1, 5, -1), 0);
        due("with oneself: no TIME", x.year(9999, 1, 5, 8), NONE);
        x.run(1, 4, 1, 0);
        x.run(2, 20, 1, 0);
        due("a race that nobody ends", x.year(0, 1, 5, -1), 1);
        due("a race that nobody ends", x.year(0, 1, 5, 1), 0);
        due("a race that nobody ends", x.year(0, 1, 5, 8), NONE);
        x.run(0, 12, 1, 0);
        x.run(7, 12, 2, 0);
        due("best of three", x.year(0, 3, 5, 8), 50);
        due("best of two", x.year(0, 2, 5, 8), 60);
        x.rest(4);
        due("one who rests: no race", x.year(0, 3, 5, -1), 2);
        due("one who rests", x.year(0, 3, 5, 4), 0);
        due("whom it should meet", x.year(0, 3, 5, 5), 0);
        due("seed -1", x.year(-1, 1, 5, -1), OUTSIDE);
        due("seed 10000", x.year(10000, 1, 5, -1), OUTSIDE);
        due("n 0", x.year(0, 0, 5, -1), OUTSIDE);
        due("n 100", x.year(0, 100, 5, -1), OUTSIDE);
        due("feet 0", x.year(0, 1, 0, -1), OUTSIDE);
        due("feet 1000", x.year(0, 1, 1000, -1), OUTSIDE);
        due("of -2", x.year(0, 1, 5, -2), OUTSIDE);
        due("of 9", x.year(0, 1, 5, 9), OUTSIDE);
        due("n 99, of nobody", new ThreeLegs().year(9999, 99, 999, 0), 0);
    }

    private static void images() {
        ThreeLegs x = drifting();
        x.say('s');
        due("image(0)", x.image(0), 1);
        x.run(0, 20, 9, 4);
        x.run(5, 6, 6, 3);
        x.rest(1);
        x.set(0, 1);
        x.set(1, 8);
        x.set(2, 50);
        x.say('l');
        due("image(1)", x.image(1), 1);
        for (int round = 0; round < 2; round++) {
            due("restore(0)", x.restore(0), 1);
            due("who ran", x.told(1), 3);
            due("BEAT then", x.told(10), 10);
            due("LENGTH then", x.told(11), 3);
            due("GIVE then", x.told(12), 0);
            due("B then", x.told(20), 13);
            due("LURCH then", x.told(2), 2);
            due("FALL then", x.told(3), 5);
            due("UP then", x.told(4), 90);
            due("the PAD stays", x.told(0), 2);
            x.run(0, 4, 4, 4);
            due("restore(1)", x.restore(1), 1);
            due("who ran", x.told(1), 33);
            due("BEAT later", x.told(10), 20);
            due("LENGTH later", x.told(61), 6);
            due("GIVE later", x.told(12), 4);
            due("LURCH later", x.told(2), 1);
            due("FALL later", x.told(3), 8);
            due("UP later", x.told(4), 50);
        }
        x.rest(5);
        due("kept anew", x.image(0), 1);
        x.rest(0);
        x.restore(0);
        due("kept anew", x.told(1), 1);
        due("image(-1)", x.image(-1), OUTSIDE);
        due("image(2)", x.image(2), OUTSIDE);
        due("restore(-1)", x.restore(-1), OUTSIDE);
        due("restore(2)", x.restore(2), OUTSIDE);
        due("image(MIN)", x.image(MIN), OUTSIDE);
        due("restore(MAX)", x.restore(MAX), OUTSIDE);
        ThreeLegs y = new ThreeLegs();
        y.image(1);
        y.run(0, 4, 1, 0);
        due("not kept", y.restore(0), STATE);
        due("nothing changed", y.told(1), 1);
        due("restore an empty one", y.restore(1), 1);
        due("nobody runs", y.told(1), 0);
    }

    private static void tellings() {
        ThreeLegs x = new ThreeLegs();
        for (int i = 0; i < 8; i++) {
            x.run(i, 4 + i, 1 + i, i % 5);
        }
        due("all run", x.told(1), 255);
        for (int i = 0; i < 8; i++) {
            due("BEAT", x.told(10 * (1 + i)), 4 + i);
            due("LENGTH", x.told(10 * (1 + i) + 1), 1 + i);
            due("GIVE", x.told(10 * (1 + i) + 2), i % 5);
            for (int rest = 3; rest < 10; rest++) {
                due("nothing", x.told(10 * (1 + i) + rest), OUTSIDE);
            }
        }
        for (int what = 5; what < 10; what++) {
            due("told " + what, x.told(what), OUTSIDE);
        }
        for (int what : new int[] {-1, -9, -10, -11, 90, 91, 92, 100, MIN, MAX}) {
            due("told " + what, x.told(what), OUTSIDE);
        }
        x.rest(3);
        due("one who rests", x.told(40), OUTSIDE);
        due("who runs", x.told(1), 247);
        x.say('s');
        due("signs", x.told(0), 1);
    }
}

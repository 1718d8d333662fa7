import java.util.ArrayList;
import java.util.Arrays;
import java.util.Collections;
import java.util.List;
import java.util.Random;

/** Long runs of drawn calls, each beside a second program that follows the document word by word in another way. */
public final class ModelTest {
    private static final int RUNS = 160;
    private static final int CALLS = 512;

    public static void main(String[] args) {
        for (int run = 0; run < RUNS; run++) {
            if (!agree(run)) {
                System.exit(1);
            }
        }
        System.out.println(RUNS + " runs of " + CALLS + " calls are as due");
    }

    private static boolean agree(int run) {
        Random draw = new Random(run);
        ThreeLegs x = new ThreeLegs();
        Model m = new Model();
        for (int i = 0; i < CALLS; i++) {
            int[] call = Draws.next(draw, m, run);
            int got = ask(x, call);
            int want = m.ask(call);
            if (got != want) {
                System.out.println("run " + run + ", call " + i + ": " + Draws.NAMES[call[0]]
                    + Arrays.toString(Arrays.copyOfRange(call, 1, call.length)) + " answered " + got + ", due is "
                    + want);
                return false;
            }
        }
        return true;
    }

    private static int ask(ThreeLegs x, int[] c) {
        switch (Draws.NAMES[c[0]]) {
            case "run": return x.run(c[1], c[2], c[3], c[4]);
            case "rest": return x.rest(c[1]);
            case "set": return x.set(c[1], c[2]);
            case "pair": return x.pair(c[1], c[2], c[3], c[4]);
            case "reach": return x.reach(c[1], c[2], c[3], c[4]);
            case "who": return x.who(c[1], c[2], c[3]);
            case "alone": return x.alone(c[1], c[2]);
            case "tied": return x.tied(c[1], c[2], c[3]);
            case "call": return x.call(c[1], c[2], c[3], c[4]);
            case "quicken": return x.quicken(c[1], c[2], c[3], c[4]);
            case "yields": return x.yields(c[1], c[2], c[3], c[4]);
            case "practice": return x.practice(c[1], c[2], c[3], c[4]);
            case "scarf": return x.scarf(c[1], c[2], c[3], c[4]);
            case "even": return x.even(c[1], c[2], c[3], c[4], c[5]);
            case "say": return x.say(c[1]);
            case "wipe": return x.wipe();
            case "fault": return x.fault();
            case "judge": return x.judge(c[1], c[2]);
            case "fits": return x.fits(c[1]);
            case "year": return x.year(c[1], c[2], c[3], c[4]);
            case "image": return x.image(c[1]);
            case "restore": return x.restore(c[1]);
            default: return x.told(c[1]);
        }
    }

    /** What is called next: mostly what is let, now and then what is not. */
    static final class Draws {
        static final String[] NAMES = {"run", "rest", "set", "pair", "reach", "who", "alone", "tied", "call",
            "quicken", "yields", "practice", "scarf", "even", "say", "wipe", "fault", "judge", "fits", "year", "image",
            "restore", "told"};
        private static final int[] OFTEN = {14, 2, 6, 8, 6, 5, 3, 7, 2, 3, 4, 5, 5, 6, 8, 1, 2, 5, 5, 4, 2, 2, 6};

        static int[] next(Random draw, Model m, int run) {
            int which = pick(draw);
            int p = person(draw, m);
            int o = person(draw, m);
            int feet = around(draw, 1, draw.nextInt(3) == 0 ? 999 : 40, 999);
            int flag = around(draw, 0, 1, 1);
            switch (NAMES[which]) {
                case "run": return runs(draw, which, run);
                case "rest": return new int[] {which, p};
                case "set": return sets(draw, which);
                case "pair": return new int[] {which, p, o, around(draw, 0, 60, 999), around(draw, 0, 4, 4)};
                case "who": return new int[] {which, p, o, flag};
                case "alone": return new int[] {which, p, feet};
                case "tied": return new int[] {which, feet, flag, draw.nextBoolean() ? -1 : p};
                case "practice": return new int[] {which, p, o, around(draw, 0, 60, 999), flag};
                case "scarf": return new int[] {which, p, o, feet, around(draw, 0, 1200, 9999)};
                case "even": return new int[] {which, p, o, person(draw, m), person(draw, m), feet};
                case "say": return new int[] {which, sign(draw)};
                case "wipe": case "fault": return new int[] {which};
                case "judge": return new int[] {which, p, o};
                case "fits": return new int[] {which, draw.nextInt(4) == 0 ? -1 : draw.nextInt(12) - 2};
                case "year": return new int[] {which, around(draw, 0, 9999, 9999), around(draw, 1, 99, 99), feet,
                    around(draw, -1, 8, 8)};
                case "image": case "restore": return new int[] {which, flag};
                case "told": return new int[] {which, draw.nextInt(100) - 3};
                default: return new int[] {which, p, o, feet, flag};
            }
        }

        private static int pick(Random draw) {
            int left = draw.nextInt(Arrays.stream(OFTEN).sum());
            int which = 0;
            while (left >= OFTEN[which]) {
                left -= OFTEN[which];
                which++;
            }
            return which;
        }

        private static int person(Random draw, Model m) {
            List<Integer> those = m.who();
            if (those.isEmpty() || draw.nextInt(25) == 0) {
                return draw.nextInt(10) - 1;
            }
            return those.get(draw.nextInt(those.size()));
        }

        private static int around(Random draw, int least, int usual, int most) {
            switch (draw.nextInt(30)) {
                case 0: return least - 1;
                case 1: return most + 1;
                case 2: return least;
                case 3: return most;
                default: return least + draw.nextInt(usual - least + 1);
            }
        }

        /** Some runs draw near BEATS, so that PAIRS come on often. */
        private static int[] runs(Random draw, int which, int run) {
            int spread = 1 + run % 17;
            int beat = draw.nextInt(15) == 0 ? draw.nextInt(23) : 4 + (run % 5 + draw.nextInt(spread)) % 17;
            return new int[] {which, draw.nextInt(30) == 0 ? draw.nextInt(12) - 2 : draw.nextInt(8), beat,
                around(draw, 1, 9, 9), around(draw, 0, 4, 4)};
        }

        private static int[] sets(Random draw, int which) {
            switch (draw.nextInt(7)) {
                case 0: case 1: return new int[] {which, 0, draw.nextInt(12) - 1};
                case 2: case 3: case 4: return new int[] {which, 1, draw.nextInt(23) - 1};
                case 5: return new int[] {which, 2, draw.nextInt(103) - 1};
                default: return new int[] {which, draw.nextInt(5) - 1, 7};
            }
        }

        private static int sign(Random draw) {
            return draw.nextInt(40) == 0 ? draw.nextInt(135) : "sslf????".charAt(draw.nextInt(8));
        }
    }

    /** A STEP that was made: its sign, the later TIME, the feet until then, how far apart, who was earlier. */
    static final class Step {
        char sign;
        int time;
        int feet;
        int apart;
        int earlier;
    }

    /** People by number, null where nobody runs; each with BEAT, LENGTH, GIVE. */
    static final class Model {
        int[][] people = new int[8][];
        int[] marks = {2, 5, 90};
        StringBuilder pad = new StringBuilder();
        int[][][] keptPeople = new int[2][][];
        int[][] keptMarks = new int[2][];

        List<Integer> who() {
            List<Integer> those = new ArrayList<>();
            for (int i = 0; i < 8; i++) {
                if (people[i] != null) {
                    those.add(i);
                }
            }
            return those;
        }

        private boolean no(int... persons) {
            for (int p : persons) {
                if (p < 0 || p > 7 || people[p] == null) {
                    return true;
                }
            }
            return persons.length == 2 && persons[0] == persons[1];
        }

        private static boolean out(int v, int least, int most) {
            return v < least || v > most;
        }

        int ask(int[] c) {
            switch (Draws.NAMES[c[0]]) {
                case "run": return run(c[1], c[2], c[3], c[4]);
                case "rest": return rest(c[1]);
                case "set": return set(c[1], c[2]);
                case "pair": return pair(c[1], c[2], c[3], c[4]);
                case "reach": return reach(c[1], c[2], c[3], c[4]);
                case "who": return whoFell(c[1], c[2], c[3]);
                case "alone": return no(c[1]) ? -1 : out(c[2], 1, 999) ? -2
                    : people[c[1]][0] * (int) Math.ceil(c[2] / (double) people[c[1]][1]);
                case "tied": return tied(c[1], c[2], c[3]);
                case "call": case "quicken": case "yields": return soonest(c);
                case "practice": return practice(c[1], c[2], c[3], c[4]);
                case "scarf": return scarf(c[1], c[2], c[3], c[4]);
                case "even": return even(c[1], c[2], c[3], c[4], c[5]);
                case "say": return say(c[1]);
                case "wipe": return wipe();
                case "fault": return fault();
                case "judge": return no(c[1], c[2]) ? -1 : fault() != -6 ? -5 : judged(c[1], c[2]);
                case "fits": return fits(c[1]);
                case "year": return year(c[1], c[2], c[3], c[4]);
                case "image": return image(c[1]);
                case "restore": return restore(c[1]);
                default: return told(c[1]);
            }
        }

        private int run(int p, int beat, int length, int give) {
            if (out(p, 0, 7)) {
                return -1;
            }
            if (out(beat, 4, 20) || out(length, 1, 9) || out(give, 0, 4)) {
                return -2;
            }
            people[p] = new int[] {beat, length, give};
            return who().size();
        }

        private int rest(int p) {
            if (no(p)) {
                return -1;
            }
            people[p] = null;
            return who().size();
        }

        private int set(int which, int v) {
            if (out(which, 0, 2)) {
                return -2;
            }
            int[] next = marks.clone();
            next[which] = v;
            if (out(next[0], 0, 9) || out(next[1], next[0], 20) || out(next[2], 0, 99)) {
                return -2;
            }
            int was = marks[which];
            marks = next;
            return was;
        }

        /** All 999 STEPS of two, each given as BEAT, LENGTH, GIVE; quickened from STEP k on. */
        private static List<Step> film(int[] one, int[] two, int[] marks, int k) {
            List<Step> film = new ArrayList<>();
            long[] last = {0, 0};
            int feet = 0;
            for (int i = 0; i < 999; i++) {
                long[] next = new long[2];
                for (int side = 0; side < 2; side++) {
                    int[] it = side == 0 ? one : two;
                    int beat = i >= k && it[0] > 4 ? it[0] - 1 : it[0];
                    long product = it[2] * (last[1 - side] - last[side]);
                    long quotient = product < 0 ? -(-product / 4) : product / 4;
                    next[side] = last[side] + beat + quotient;
                    if (next[side] <= last[side]) {
                        next[side] = last[side] + 1;
                    }
                }
                Step step = new Step();
                long apart = next[0] > next[1] ? next[0] - next[1] : next[1] - next[0];
                step.earlier = next[0] < next[1] ? 0 : 1;
                step.sign = apart > marks[1] ? 'f' : apart > marks[0] ? 'l' : 's';
                if (step.sign == 'f') {
                    next[0] = (next[0] > next[1] ? next[0] : next[1]) + marks[2];
                    next[1] = next[0];
                    apart = 0;
                }
                if (step.sign == 's') {
                    feet += one[1] < two[1] ? one[1] : two[1];
                }
                step.feet = feet;
                step.apart = (int) apart;
                step.time = (int) (next[0] > next[1] ? next[0] : next[1]);
                film.add(step);
                last = next;
            }
            return film;
        }

        private List<Step> film(int p, int o) {
            return film(people[p], people[o], marks, 1000);
        }

        private static Step there(List<Step> film, int feet) {
            for (Step step : film) {
                if (step.feet >= feet) {
                    return step;
                }
            }
            return null;
        }

        private static int timeOf(Step step) {
            return step == null ? -6 : step.time;
        }

        private static int often(List<Step> film, int n, char sign) {
            return (int) film.subList(0, n).stream().filter(s -> s.sign == sign).count();
        }

        private int pair(int p, int o, int n, int what) {
            if (no(p, o)) {
                return -1;
            }
            if (out(n, 0, 999) || out(what, 0, 4)) {
                return -2;
            }
            List<Step> film = film(p, o);
            Step last = n == 0 ? new Step() : film.get(n - 1);
            int[] all = {last.time, last.feet, often(film, n, 'l'), often(film, n, 'f'), last.apart};
            return all[what];
        }

        private int reach(int p, int o, int feet, int what) {
            if (no(p, o)) {
                return -1;
            }
            if (out(feet, 1, 999) || out(what, 0, 1)) {
                return -2;
            }
            List<Step> film = film(p, o);
            Step there = there(film, feet);
            return there == null ? -6 : what == 0 ? film.indexOf(there) : there.time;
        }

        private int whoFell(int p, int o, int what) {
            if (no(p, o)) {
                return -1;
            }
            if (out(what, 0, 1)) {
                return -2;
            }
            List<Step> film = film(p, o);
            for (int i = 0; i < 999; i++) {
                if (film.get(i).sign == 'f') {
                    return what == 0 ? i : film.get(i).earlier == 0 ? p : o;
                }
            }
            return -6;
        }

        private int tied(int feet, int by, int p) {
            List<Integer> those = who();
            if (those.isEmpty() || those.size() % 2 == 1) {
                return -3;
            }
            if (p != -1 && no(p)) {
                return -1;
            }
            if (out(feet, 1, 999) || out(by, 0, 1)) {
                return -2;
            }
            int[][] cost = new int[8][8];
            for (int a : those) {
                for (int b : those) {
                    int time = a < b ? timeOf(there(film(a, b), feet)) : 0;
                    cost[a][b] = time == -6 ? 100000 : time;
                }
            }
            List<int[]> ways = new ArrayList<>();
            addWays(those, new int[] {-1, -1, -1, -1, -1, -1, -1, -1}, ways);
            // The ways in falling order of partners, so that the last one that is no worse is the first of its kind.
            ways.sort((v, w) -> Arrays.compare(w, v));
            int least = Integer.MAX_VALUE;
            int[] best = null;
            for (int[] way : ways) {
                int sum = 0;
                int worst = 0;
                for (int a : those) {
                    if (a < way[a]) {
                        sum += cost[a][way[a]];
                        worst = Math.max(worst, cost[a][way[a]]);
                    }
                }
                if ((by == 0 ? sum : worst) <= least) {
                    least = by == 0 ? sum : worst;
                    best = way;
                }
            }
            return p == -1 ? least : best[p];
        }

        /** From the greatest PERSON down, each with any one that is left. */
        private static void addWays(List<Integer> left, int[] mates, List<int[]> ways) {
            if (left.isEmpty()) {
                ways.add(mates.clone());
                return;
            }
            Integer last = Collections.max(left);
            for (Integer other : left) {
                if (other < last) {
                    List<Integer> rest = new ArrayList<>(left);
                    rest.remove(last);
                    rest.remove(other);
                    mates[last] = other;
                    mates[other] = last;
                    addWays(rest, mates, ways);
                }
            }
        }

        /** CALL, QUICKEN and YIELD: all trials told as {TIME, key}, of which the least is the answer. */
        private int soonest(int[] c) {
            if (no(c[1], c[2])) {
                return -1;
            }
            if (out(c[3], 1, 999) || out(c[4], 0, 1)) {
                return -2;
            }
            int[] one = people[c[1]];
            int[] two = people[c[2]];
            List<int[]> trials = new ArrayList<>();
            String name = Draws.NAMES[c[0]];
            for (int v = 0; v <= 61; v++) {
                if (name.equals("quicken")) {
                    addTrial(trials, v, there(film(one, two, marks, v == 61 ? 1000 : v), c[3]));
                } else if (name.equals("call") && v >= 4 && v <= 20) {
                    addTrial(trials, v, there(film(with(one, 0, v), with(two, 0, v), marks, 1000), c[3]));
                } else if (name.equals("yields") && v / 10 <= 4 && v % 10 <= 4) {
                    addTrial(trials, v, there(film(with(one, 2, v / 10), with(two, 2, v % 10), marks, 1000), c[3]));
                }
            }
            trials.sort(Arrays::compare);
            return trials.isEmpty() ? -6 : trials.get(0)[1 - c[4]];
        }

        private static void addTrial(List<int[]> trials, int key, Step there) {
            if (there != null) {
                trials.add(new int[] {there.time, key});
            }
        }

        private static int[] with(int[] it, int at, int v) {
            int[] other = it.clone();
            other[at] = v;
            return other;
        }

        private int practice(int p, int o, int n, int what) {
            if (no(p, o)) {
                return -1;
            }
            if (out(n, 0, 999) || out(what, 0, 1)) {
                return -2;
            }
            List<int[]> trials = new ArrayList<>();
            for (int v = 0; v < 25; v++) {
                int[] one = with(people[p], 2, v / 5);
                int[] two = with(people[o], 2, v % 5);
                int[] more = {one[2] - people[p][2], two[2] - people[o][2]};
                if (more[0] >= 0 && more[1] >= 0 && often(film(one, two, marks, 1000), n, 'f') == 0) {
                    trials.add(new int[] {more[0] + more[1], 10 * one[2] + two[2]});
                }
            }
            trials.sort(Arrays::compare);
            return trials.isEmpty() ? -6 : trials.get(0)[what];
        }

        private int scarf(int p, int o, int feet, int time) {
            if (no(p, o)) {
                return -1;
            }
            if (out(feet, 1, 999) || out(time, 0, 9999)) {
                return -2;
            }
            int least = -6;
            for (int lurch = marks[1]; lurch >= 0; lurch--) {
                Step there = there(film(people[p], people[o], with(marks, 0, lurch), 1000), feet);
                if (there != null && there.time <= time) {
                    least = lurch;
                }
            }
            return least;
        }

        private int even(int a, int b, int c, int d, int feet) {
            if (no(a, b) || no(c, d)) {
                return -1;
            }
            if (out(feet, 1, 999)) {
                return -2;
            }
            Step theirs = there(film(c, d), feet);
            if (theirs == null) {
                return -6;
            }
            List<Step> film = film(a, b);
            for (int less = 0; less < feet; less++) {
                Step ours = there(film, feet - less);
                if (ours != null && ours.time <= theirs.time) {
                    return less;
                }
            }
            return feet;
        }

        private int say(int sign) {
            if (out(sign, 33, 126)) {
                return -2;
            }
            if (pad.length() == 40) {
                return -4;
            }
            return pad.append((char) sign).length();
        }

        private int wipe() {
            int was = pad.length();
            pad = new StringBuilder();
            return was;
        }

        private int fault() {
            String rest = pad.toString().replaceFirst("^[slf?]*", "");
            return rest.isEmpty() ? -6 : pad.length() - rest.length();
        }

        private int judged(int p, int o) {
            List<Step> film = film(p, o);
            for (int i = 0; i < pad.length(); i++) {
                if (pad.charAt(i) != '?' && pad.charAt(i) != film.get(i).sign) {
                    return i;
                }
            }
            return -6;
        }

        private int fits(int i) {
            if (fault() != -6) {
                return -5;
            }
            List<Integer> all = new ArrayList<>();
            for (int two = 0; two < 78; two++) {
                if (two / 10 < two % 10 && !no(two / 10, two % 10) && judged(two / 10, two % 10) == -6) {
                    all.add(two);
                }
            }
            return i == -1 ? all.size() : i < 0 || i >= all.size() ? -6 : all.get(i);
        }

        private int year(int seed, int n, int feet, int of) {
            if (out(seed, 0, 9999) || out(n, 1, 99) || out(feet, 1, 999) || out(of, -1, 8)) {
                return -2;
            }
            int races = 0;
            int[] arrivals = new int[8];
            List<Integer> times = new ArrayList<>();
            long x = seed;
            for (int i = 0; i < n; i++) {
                x = Math.floorMod(75L * x + 74L, 65537L);
                int a = (int) (x & 7);
                int b = (int) (x >> 3 & 7);
                if (!no(a, b)) {
                    races++;
                    Step there = there(film(a, b), feet);
                    if (there != null) {
                        arrivals[a]++;
                        arrivals[b]++;
                        times.add(there.time);
                    }
                }
            }
            return of == -1 ? races : of < 8 ? arrivals[of] : times.isEmpty() ? -6 : Collections.min(times);
        }

        private int image(int n) {
            if (out(n, 0, 1)) {
                return -2;
            }
            keptPeople[n] = people.clone();
            keptMarks[n] = marks;
            return 1;
        }

        private int restore(int n) {
            if (out(n, 0, 1)) {
                return -2;
            }
            if (keptPeople[n] == null) {
                return -3;
            }
            people = keptPeople[n].clone();
            marks = keptMarks[n];
            return 1;
        }

        private int told(int what) {
            if (what == 0) {
                return pad.length();
            }
            if (what == 1) {
                return who().stream().mapToInt(p -> 1 << p).sum();
            }
            if (what >= 2 && what <= 4) {
                return marks[what - 2];
            }
            if (what < 10 || what % 10 > 2 || no(what / 10 - 1)) {
                return -2;
            }
            return people[what / 10 - 1][what % 10];
        }
    }
}

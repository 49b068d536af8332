import java.lang.reflect.Method;
import java.util.Arrays;
import java.util.HashMap;
import java.util.List;
import java.util.Map;
import java.util.Random;

/** Runs of calls by a fixed seed, each answer beside the oracle's: all promises, counties of every size. */
public final class OracleTest {
    private static final int RUNS = 300, CALLS = 512;

    private static final String[] NAMES = {"write", "wipe", "fault", "lay", "family", "wall", "tree", "pass", "share",
        "sick", "undo", "behind", "gone", "best", "enough", "nextTo", "all", "see", "forget", "whoSick", "kinds",
        "idle", "year", "keep", "back", "count"};
    // how often each call comes: days, sharing and sickness often, what would undo too much seldom
    private static final int[] WEIGHTS = {3, 1, 2, 1, 6, 10, 3, 12, 12, 6, 4, 6, 3, 4, 4, 4, 2, 6, 1, 5, 5, 4, 4, 2, 1, 6};

    private static final Map<String, Method> OF_THE_CLASS = calls(LeaningWalls.class);
    private static final Map<String, Method> OF_THE_ORACLE = calls(Oracle.class);

    // counties in which all settle late, or in which doing less at some walls would be better than doing all
    private static final String[] RARE = {
        "f2,9,0;f0,2,32;f0,2,10;f2,12,6;w1,2;w0,3;w2,1;w3,2;w3,0;w1,0;w0,3;w2,1;",
        "f3,0,11;f3,7,10;f2,9,1;f3,5,2;w1,0;w0,3;w3,0;w1,0;w1,2;w3,2;w1,3;",
        "f3,7,11;f3,12,0;f3,12,6;f3,6,14;w1,3;w3,2;w0,1;w2,0;w0,1;w2,3;",
        "f4,9,6;f2,9,31;f4,7,7;f4,6,2;f2,3,7;f0,1,8;w4,5;w2,3;w1,0;w4,1;w5,0;w0,3;w4,1;",
        "f0,5,9;f4,7,8;f4,0,9;w1,0;w1,2;w2,1;w2,1;w0,2;",
        "f0,3,4;f4,3,6;f4,1,18;f0,8,3;f3,3,3;w1,0;w4,0;w0,1;w3,0;w2,4;w1,2;w2,3;w2,3;"};

    private final Random random;
    private LeaningWalls x = new LeaningWalls();
    private Oracle oracle = new Oracle();

    private OracleTest(long seed) {
        random = new Random(seed);
    }

    public static void main(String[] args) {
        for (int run = 0; run < RUNS; run++) {
            new OracleTest(run).run(run);
        }
        for (String text : RARE) {
            new OracleTest(0).rare(text);
        }
        Check.end();
    }

    private void rare(String text) {
        lay(text);
        for (int day = 0; day < 5; day++) {
            for (int f = 0; f < oracle.count(0); f++) {
                Check.due("all " + f + " of " + text, x.all(f), oracle.all(f));
                for (int k = 0; k <= 4; k++) {
                    Check.due("best of " + f + " of " + text, x.best(f, 14, k), oracle.best(f, 14, k));
                }
            }
            x.pass(1);
            oracle.pass(1);
        }
    }

    private void run(int run) {
        int calls = 0;
        if (run % 10 != 0) {
            calls = lay(county());
        }
        for (; calls < CALLS; calls++) {
            if (calls < CALLS - 200 && random.nextInt(150) == 0) {
                calls += lay(random.nextInt(3) == 0 ? spoiled(county()) : county());
            }
            call("run " + run + ", call " + calls + ": ");
        }
    }

    private int lay(String text) {
        Check.due("wipe", x.wipe(), oracle.wipe());
        for (int i = 0; i < text.length(); i++) {
            Check.due("write", x.write(text.charAt(i)), oracle.write(text.charAt(i)));
        }
        Check.due("fault of " + text, x.fault(), oracle.fault());
        Check.due("lay " + text, x.lay(), oracle.lay());
        return text.length() + 3;
    }

    private String county() {
        StringBuilder text = new StringBuilder();
        int families = 1 + random.nextInt(6);
        int mostLand = random.nextInt(3) == 0 ? 99 : 1 + random.nextInt(20);
        int mostHours = 1 + random.nextInt(12);
        for (int f = 0; f < families; f++) {
            text.append('f').append(number(random.nextInt(5))).append(',')
                .append(number(random.nextInt(mostHours + 1))).append(',')
                .append(number(random.nextInt(mostLand + 1))).append(';');
        }
        int walls = families == 1 ? 0 : random.nextInt(9);
        int[] each = new int[families];
        int told = 0;
        for (int i = 0; i < 3 * walls && told < walls; i++) {
            int a = random.nextInt(families);
            int b = random.nextInt(families);
            if (a != b && each[a] < 4 && each[b] < 4) {
                each[a]++;
                each[b]++;
                told++;
                text.append('w').append(number(a)).append(',').append(number(b)).append(';');
            }
        }
        int trees = told == 0 ? 0 : random.nextInt(7);
        for (int t = 0; t < trees; t++) {
            text.append('t').append(number(random.nextInt(told))).append(',')
                .append(number(10 + random.nextInt(21))).append(';');
        }
        return text.toString();
    }

    private String number(int n) {
        return n < 10 && random.nextInt(12) == 0 ? "0" + n : Integer.toString(n);
    }

    private String spoiled(String text) {
        String signs = "fwt0123456789,;;x ";
        StringBuilder other = new StringBuilder(text);
        int place = random.nextInt(text.length());
        char sign = signs.charAt(random.nextInt(signs.length()));
        switch (random.nextInt(4)) {
            case 0: other.setCharAt(place, sign); break;
            case 1: other.insert(place, sign); break;
            case 2: other.deleteCharAt(place); break;
            default: other.append(text, random.nextInt(text.length()), text.length()); break;
        }
        return other.toString();
    }

    /** Mostly a number from 0 to most, seldom one outside. */
    private int upTo(int most) {
        switch (random.nextInt(40)) {
            case 0: return -1;
            case 1: return most + 1;
            case 2: return random.nextInt();
            case 3: return most;
            default: return random.nextInt(most + 1);
        }
    }

    private int family() {
        return upTo(oracle.count(0) - 1);
    }

    private int wall() {
        return upTo(Math.max(0, oracle.count(1) - 1));
    }

    private String pick() {
        int sum = 0;
        for (int weight : WEIGHTS) {
            sum += weight;
        }
        int left = random.nextInt(sum);
        int i = 0;
        while (left >= WEIGHTS[i]) {
            left -= WEIGHTS[i];
            i++;
        }
        return NAMES[i];
    }

    private void call(String where) {
        String name = pick();
        int[] n;
        switch (name) {
            case "write": n = new int[] {31 + random.nextInt(97)}; break;
            case "family": n = new int[] {family(), upTo(5)}; break;
            case "wall": n = new int[] {wall(), upTo(7)}; break;
            case "tree": n = new int[] {upTo(Math.max(0, oracle.count(2) - 1))}; break;
            case "pass": n = new int[] {random.nextInt(4) == 0 ? upTo(30) : 1 + random.nextInt(3)}; break;
            case "share": n = shares(); break;
            case "sick": case "all": case "kinds": n = new int[] {family()}; break;
            case "behind": n = new int[] {upTo(60), random.nextInt(8), upTo(2)}; break;
            case "gone": n = new int[] {upTo(1)}; break;
            case "best": n = new int[] {family(), upTo(14), upTo(4)}; break;
            case "enough": n = new int[] {family(), upTo(14)}; break;
            case "nextTo": n = new int[] {family(), family()}; break;
            case "see": n = sight(); break;
            case "idle": n = new int[] {family(), land(), upTo(10), upTo(1)}; break;
            case "year": n = new int[] {upTo(9999), upTo(60), upTo(1)}; break;
            case "count": n = new int[] {upTo(9)}; break;
            default: n = new int[0]; break;
        }
        Check.due(where + name + Arrays.toString(n), answer(name, n), due(name, n));
    }

    /** Often a family's own wall, and hours that it may have. */
    private int[] shares() {
        int w = wall();
        int f = random.nextInt(4) == 0 ? family() : oracle.wall(w, random.nextInt(2));
        return new int[] {f, w, random.nextInt(3) == 0 ? upTo(12) : random.nextInt(4)};
    }

    /** Often a place where the wall will be, as things stand or were some family's sickness otherwise. */
    private int[] sight() {
        int w = wall();
        int t = random.nextInt(4) == 0 ? upTo(30) : 1 + random.nextInt(6);
        if (random.nextInt(8) == 0) {
            return new int[] {w, upTo(99), t};
        }
        int place = oracle.behind(t, w, 1) - 50;
        return new int[] {w, random.nextInt(3) == 0 ? place + random.nextInt(5) - 2 : place, t};
    }

    private int land() {
        int land = oracle.family(random.nextInt(oracle.count(0)), 2);
        return random.nextInt(4) == 0 ? upTo(99) : land - 1 + random.nextInt(4);
    }

    private int answer(String name, int[] n) {
        return ask(OF_THE_CLASS, x, name, n);
    }

    private int due(String name, int[] n) {
        return ask(OF_THE_ORACLE, oracle, name, n);
    }

    private static int ask(Map<String, Method> calls, Object of, String name, int[] n) {
        Object[] numbers = new Object[n.length];
        for (int i = 0; i < n.length; i++) {
            numbers[i] = n[i];
        }
        try {
            return (int) calls.get(name).invoke(of, numbers);
        } catch (ReflectiveOperationException e) {
            throw new IllegalStateException(name, e);
        }
    }

    private static Map<String, Method> calls(Class<?> of) {
        Map<String, Method> calls = new HashMap<>();
        for (Method method : of.getDeclaredMethods()) {
            if (List.of(NAMES).contains(method.getName())) {
                calls.put(method.getName(), method);
            }
        }
        return calls;
    }
}

import java.lang.reflect.Method;
import java.util.ArrayList;
import java.util.Arrays;
import java.util.List;
import java.util.Random;

/** Random runs of at most 512 calls, told seeds, held against the Oracle call by call. */
public final class OracleTest {
    private static final int CALLS = 512;
    private static final Method[] PROGRAM = methods(ShortPrayers.class);
    private static final Method[] ORACLE = methods(Oracle.class);

    private final Random random;
    private final ShortPrayers x = new ShortPrayers();
    private final Oracle oracle = new Oracle();
    private final List<String> run = new ArrayList<>();
    private boolean same = true;

    private OracleTest(int seed) {
        random = new Random(seed);
    }

    public static void main(String[] args) throws ReflectiveOperationException {
        int from = args.length > 0 ? Integer.parseInt(args[0]) : 0;
        int runs = args.length > 1 ? Integer.parseInt(args[1]) : 1500;
        int wrong = 0;
        for (int seed = from; seed < from + runs && wrong < 5; seed++) {
            OracleTest test = new OracleTest(seed);
            test.play(seed % 4);
            if (!test.same) {
                wrong++;
                System.out.println("seed " + seed + ":");
                test.run.subList(Math.max(0, test.run.size() - 40), test.run.size()).forEach(System.out::println);
            }
        }
        System.out.println(wrong == 0 ? runs + " runs are alike" : wrong + " runs differ");
        if (wrong != 0) {
            System.exit(1);
        }
    }

    private static Method[] methods(Class<?> of) {
        return Arrays.stream(of.getDeclaredMethods())
            .filter(m -> java.lang.reflect.Modifier.isPublic(m.getModifiers()))
            .sorted(java.util.Comparator.comparing(Method::getName)).toArray(Method[]::new);
    }

    private static Method find(Method[] among, String name) {
        for (Method method : among) {
            if (method.getName().equals(name)) {
                return method;
            }
        }
        throw new IllegalArgumentException(name);
    }

    private int call(String name, int... arguments) throws ReflectiveOperationException {
        if (run.size() >= CALLS || !same) {
            return -1;
        }
        Object[] boxed = Arrays.stream(arguments).boxed().toArray();
        int got = (Integer) find(PROGRAM, name).invoke(x, boxed);
        int due = (Integer) find(ORACLE, name).invoke(oracle, boxed);
        run.add(name + Arrays.toString(arguments) + " = " + got + (got == due ? "" : ", due is " + due));
        same = got == due;
        return due;
    }

    private boolean goesOn() {
        return same && run.size() < CALLS;
    }

    /** Mostly a number from low to high; now and then one beside, or far off. */
    private int some(int low, int high) {
        switch (random.nextInt(40)) {
            case 0:
                return low - 1;
            case 1:
                return high + 1;
            case 2:
                return new int[] {Integer.MIN_VALUE, Integer.MAX_VALUE, -1, 0, 1000000, -1000000}[random.nextInt(6)];
            default:
                return low + random.nextInt(high - low + 1);
        }
    }

    /** Manners: 0 a small village, 1 a rich one, 2 one that looks ahead, 3 from nothing. */
    private void play(int manner) throws ReflectiveOperationException {
        if (manner != 3) {
            found();
        }
        for (int i = 0; i < 30 && manner == 1; i++) {
            village();
        }
        while (goesOn()) {
            if (manner == 2 && random.nextInt(3) == 0) {
                foresee();
            } else {
                step(random.nextInt(100));
            }
            if (random.nextInt(4) == 0) {
                call("status");
            }
            if (random.nextInt(10) == 0) {
                call("count", some(0, 19));
            }
        }
    }

    private void found() throws ReflectiveOperationException {
        int words = 2 + random.nextInt(4);
        for (int i = 0; i < words; i++) {
            call("word", 1 + random.nextInt(random.nextBoolean() ? 3 : 9));
        }
        int people = 1 + random.nextInt(3);
        for (int i = 0; i < people; i++) {
            call("person", random.nextInt(100));
        }
        call("terms", 1, 1 + random.nextInt(4));
        call("terms", 2, random.nextInt(6));
        if (random.nextBoolean()) {
            call("image", random.nextInt(2));
        }
    }

    private void step(int kind) throws ReflectiveOperationException {
        if (kind < 20) {
            call("pray", person(), some(0, 7), some(1, random.nextBoolean() ? 20 : 99), some(1, 6));
        } else if (kind < 26) {
            call("dawn");
        } else if (kind < 29) {
            call("undo");
        } else if (kind < 30) {
            call("sweep");
        } else if (kind < 37) {
            text(false);
        } else if (kind < 44) {
            text(true);
        } else if (kind < 46) {
            row();
        } else if (kind < 49) {
            call("force", some(-1, oracle.count(7) - 1));
        } else if (kind < 60) {
            village();
        } else if (kind < 78) {
            ask();
        } else if (kind < 94) {
            foresee();
        } else if (kind < 97) {
            season();
        } else if (kind < 99) {
            call("image", some(0, 1));
        } else {
            call("back", some(0, 1));
        }
    }

    private int person() {
        return some(0, Math.max(0, oracle.count(2) - 1));
    }

    /** Mostly a PRAYER that WAITS. */
    private int prayer() {
        int n = Math.max(1, oracle.count(3));
        int start = random.nextInt(n);
        for (int i = 0; i < n && random.nextInt(30) != 0; i++) {
            if (oracle.at((start + i) % n, 5) == 0) {
                return (start + i) % n;
            }
        }
        return some(0, 15);
    }

    private void village() throws ReflectiveOperationException {
        switch (random.nextInt(10)) {
            case 9:
                codes();
                break;
            case 0:
                call("word", some(1, 9));
                break;
            case 1:
            case 2:
                call("rule", some(0, 7), part(), random.nextInt(3) == 0 ? -1 : part(),
                    random.nextInt(3) == 0 ? part() : -1);
                break;
            case 3:
                call("clash", some(0, 7), some(0, 7), some(0, 1));
                break;
            case 4:
                call("often", some(0, 7), random.nextInt(4) == 0 ? 0 : some(0, random.nextBoolean() ? 6 : 99));
                break;
            case 5:
                call("person", some(0, 99));
                break;
            case 6:
                terms();
                break;
            case 7:
                call("bundle", some(1, 255), some(1, random.nextBoolean() ? 4 : 99));
                break;
            default:
                call("answer", some(1, random.nextBoolean() ? 3 : 9), some(0, 7), some(0, 1));
                break;
        }
    }

    private int part() {
        return random.nextInt(5) < 3 ? some(0, Math.max(0, oracle.count(0) - 1)) : some(10, 17);
    }

    private void terms() throws ReflectiveOperationException {
        switch (random.nextInt(5)) {
            case 0:
                int far = random.nextBoolean() ? 30 : 999;
                call("terms", 0, random.nextInt(3) == 0 ? 990 + random.nextInt(11) : some(0, far));
                break;
            case 1:
                call("terms", 1, some(1, 4));
                break;
            case 2:
                call("terms", 2, some(0, random.nextBoolean() ? 3 : 30));
                break;
            case 3:
                call("terms", 3, some(0, 9));
                break;
            default:
                call("terms", some(0, 3), some(0, 5));
                break;
        }
    }

    private void ask() throws ReflectiveOperationException {
        switch (random.nextInt(12)) {
            case 0:
                call("lengthOf", some(0, Math.max(0, oracle.count(0) - 1)));
                break;
            case 1:
                call("of", some(0, Math.max(0, oracle.count(1) - 1)), some(0, 3));
                break;
            case 2:
                call("breath", person(), some(0, 1));
                break;
            case 3:
                call("say", some(0, 7), some(0, 9));
                break;
            case 4:
                call("at", some(0, Math.max(0, oracle.count(3) - 1)), some(0, 6));
                break;
            case 5:
                call("rank", prayer(), some(0, 1));
                break;
            case 6:
                call("order", some(-1, Math.max(0, oracle.count(4) - 1)));
                break;
            case 7:
                call("code", letters(), some(0, 8));
                break;
            case 8:
                call("cover", some(1, random.nextBoolean() ? 15 : 255), some(0, 1));
                break;
            case 9:
                call("coughs");
                break;
            case 10:
                call("fault");
                break;
            default:
                call("stopped");
                break;
        }
    }

    private void codes() throws ReflectiveOperationException {
        int most = random.nextBoolean() ? 3 : 20;
        int asked = 2 + random.nextInt(5);
        for (int thing = 0; thing < 8; thing++) {
            call("often", thing, random.nextInt(8) < asked ? random.nextInt(most) : 0);
        }
        int letters = letters();
        for (int what = 0; what <= 8; what++) {
            call("code", letters, what);
        }
    }

    private int letters() {
        int words = Math.max(1, oracle.count(0));
        int letters = 1 << random.nextInt(words) | 1 << random.nextInt(words) | 1 << random.nextInt(words);
        return random.nextInt(10) == 0 ? some(0, 1023) : letters;
    }

    private void foresee() throws ReflectiveOperationException {
        switch (random.nextInt(12)) {
            case 0:
            case 1:
            case 2:
                call("when", prayer(), some(1, random.nextBoolean() ? 9 : 50), some(0, 1));
                break;
            case 3:
            case 4:
            case 5:
                call("longest", person(), some(0, 7), some(1, 6));
                break;
            case 6:
            case 7:
            case 8:
                call("keep", prayer(), some(1, random.nextBoolean() ? 4 : 20), person(), some(0, 7),
                    some(1, random.nextBoolean() ? 12 : 99));
                break;
            case 9:
                call("hidden", random.nextBoolean() ? -1 : some(0, 500));
                break;
            case 10:
                call("hidden", some(0, 40));
                break;
            default:
                if (random.nextInt(2) == 0) {
                    call("forget");
                }
                break;
        }
    }

    private void season() throws ReflectiveOperationException {
        if (random.nextBoolean()) {
            call("season", some(0, 1000000), some(1, 60));
        }
        if (random.nextInt(4) == 0) {
            call("person", some(0, 99));
        }
        call("drawn", person(), some(0, 3));
        call("drawn", random.nextBoolean() ? person() : some(0, 5), some(0, 3));
    }

    private void row() throws ReflectiveOperationException {
        int[] bytes = new int[random.nextInt(14)];
        int[] bounds = {3, 9, 30};
        for (int i = 0; i < bytes.length; i++) {
            bytes[i] = random.nextInt(20) == 0 ? random.nextInt(256) : random.nextInt(bounds[i % 3]);
        }
        feed(bytes);
        call("row");
        call("coughs");
    }

    private void text(boolean ordering) throws ReflectiveOperationException {
        String text = new Texts(random, ordering).text();
        int[] bytes = new int[text.length()];
        for (int i = 0; i < bytes.length; i++) {
            bytes[i] = text.charAt(i);
        }
        feed(bytes);
        run.add("    " + text);
        int told = call(ordering ? "orders" : "law");
        call("fault");
        if (ordering) {
            call("stopped");
        } else if (told >= 0 && random.nextInt(3) != 0) {
            call("force", told);
        } else if (told == -5 && random.nextInt(3) == 0) {
            call("back", random.nextInt(2));
        }
    }

    private void feed(int[] bytes) throws ReflectiveOperationException {
        if (random.nextInt(12) != 0) {
            call("end", 0);
        }
        int had = call("count", 9);
        for (int i = 0; i < bytes.length; i += 20) {
            int[] words = new int[5];
            for (int j = 0; j < 20; j++) {
                int sign = i + j < bytes.length ? bytes[i + j] : random.nextInt(256);
                words[j / 4] |= sign << 24 - j % 4 * 8;
            }
            call("feed", words);
        }
        if (random.nextInt(12) != 0) {
            call("end", Math.min(400, had + bytes.length));
        }
    }
}

import java.lang.reflect.Method;
import java.util.ArrayList;
import java.util.Arrays;
import java.util.Comparator;
import java.util.List;
import java.util.Random;

/** Runs of calls by chance, the same ones each time, against what the Oracle answers. */
public final class RandomRunsTest {
    private static final int RUNS = 300;
    /** What begins behind that many may take 72 more: an object is used for 512 at most. */
    private static final int CALLS = 440;
    private static final Due DUE = new Due();

    private final Random random;
    private final List<Method> acts;
    private final FigureTill till = new FigureTill();
    private final Oracle oracle = new Oracle();
    private final List<String> calls = new ArrayList<>();
    private boolean right = true;

    private RandomRunsTest(long seed, List<Method> acts) {
        random = new Random(seed);
        this.acts = acts;
    }

    public static void main(String[] args) throws Exception {
        List<Method> acts = new ArrayList<>(Arrays.asList(FigureTill.class.getDeclaredMethods()));
        acts.removeIf(m -> !java.lang.reflect.Modifier.isPublic(m.getModifiers()));
        acts.sort(Comparator.comparing(Method::getName));
        DUE.is("acts", acts.size(), 35);
        for (int run = 0; run < RUNS; run++) {
            new RandomRunsTest(run, acts).run(run);
        }
        DUE.end();
    }

    private void run(int run) throws Exception {
        while (calls.size() < CALLS && right) {
            Method act = acts.get(random.nextInt(acts.size()));
            switch (act.getName()) {
                case "text": case "feed":
                    feedText();
                    ask("text", chance(20) ? number() : random.nextInt(2));
                    break;
                case "sheet":
                    fillSheet();
                    break;
                case "untell": case "restore":
                    if (chance(40)) {
                        askByChance(act);
                    }
                    break;
                case "dearer":
                    if (chance(30)) {
                        askByChance(act);
                    }
                    break;
                case "voice":
                    askByChance(act);
                    ask("count", 6);
                    ask("body", random.nextInt(7));
                    break;
                default:
                    askByChance(act);
                    break;
            }
        }
        for (int k = 1; k <= 6 && right; k++) {
            ask("told", k);
        }
        if (!right) {
            System.out.println("run " + run + ": " + String.join("; ", calls));
        }
    }

    private boolean chance(int percent) {
        return random.nextInt(100) < percent;
    }

    /** Any number: small ones mostly, the greatest and those like ERRORS now and then. */
    private int number() {
        switch (random.nextInt(8)) {
            case 0: return random.nextInt();
            case 1: return random.nextInt(20000) - 5000;
            case 2: return chance(50) ? Integer.MAX_VALUE : Integer.MIN_VALUE;
            case 3: return -1000000000 - random.nextInt(8);
            case 4: return -1;
            default: return random.nextInt(30);
        }
    }

    private void askByChance(Method act) throws Exception {
        long[] a = new long[act.getParameterCount()];
        for (int i = 0; i < a.length; i++) {
            a[i] = chance(4) ? number() : random.nextInt(MOST.valueOf(act.getName()).most[i]);
        }
        String name = act.getName();
        if (name.equals("nines")) {
            a[0]--;
        } else if (name.equals("more")) {
            a[3] -= 2;
        } else if (name.equals("thing") && chance(80)) {
            a[2] = a[1] == 2 ? a[2] % 30 : a[2];
        } else if (name.equals("voice") || name.equals("seed")) {
            a[a.length - 1] = number();
        } else if (name.equals("tell") && chance(90)) {
            a[0] = oracle.call("asks", random.nextInt(2), oracle.call("count", 5) + 1, 1);
        } else if (name.equals("erring") && chance(80)) {
            int u = random.nextInt(17);
            a[2] = 17 * u + random.nextInt(17 - u);
        }
        ask(name, a);
    }

    /** One above the greatest number that is asked for mostly, of each call's numbers. */
    private enum MOST {
        thing(8, 3, 400), thingIs(8, 4), till(4, 70), tillIs(4, 2), as(4, 7), figures(300000, 12),
        asks(4, 299971, 31), untell(2), basket(4, 3), pays(4, 4), go(4, 4), draws(20), seed(9),
        more(4, 4, 5, 10), inTwo(4, 4), together(4, 4, 4), worth(4, 4, 8), dearer(4, 4, 3), nines(5),
        erring(4, 4, 289, 2), wasIn(4, 30, 2), voice(4, 4, 9), body(7), put(4, 9, 10),
        move(4, 9, 4, 9, 9), prices(4), image, restore, tell(30), check(2), count(8), told(7);

        private final int[] most;

        MOST(int... most) {
            this.most = most;
        }
    }

    private void ask(String name, long... a) throws Exception {
        Object[] given = new Object[a.length];
        Method act = acts.stream().filter(m -> m.getName().equals(name)).findFirst().get();
        for (int i = 0; i < a.length; i++) {
            given[i] = act.getParameterTypes()[i] == long.class ? (Object) a[i] : (Object) (int) a[i];
        }
        String call = name + Arrays.toString(a).replace('[', '(').replace(']', ')');
        calls.add(call);
        long due = oracle.call(name, a);
        long got = ((Number) act.invoke(till, given)).longValue();
        DUE.is(call, got, due);
        right = got == due;
    }

    private void fillSheet() throws Exception {
        int sheet = random.nextInt(4);
        int n = random.nextInt(10);
        int[] bits = {8, 16, 32, 32, 8, 0, 8, 16, 32, 24};
        ask("sheet", sheet, bits[random.nextInt(10)], chance(5) ? number() : n);
        int most = new int[] {2, 3, 5, 10}[random.nextInt(4)];
        for (int i = 0; i < n && right; i++) {
            ask("put", sheet, i, chance(1) ? number() : random.nextInt(most));
        }
        if (chance(15) && right) {
            ask("put", sheet, random.nextInt(9), random.nextInt(300));
            ask("prices", sheet);
        }
    }

    private void feedText() throws Exception {
        String text = text(random.nextInt(4), random.nextInt(2));
        if (text.length() > 60 || chance(30)) {
            text = text.substring(0, Math.min(60, random.nextInt(text.length() + 1)));
        }
        if (chance(25) && !text.isEmpty()) {
            String signs = "skmtpc0123456789|&<=>+-*/%!() \u0000\u00e9\u00ff";
            int i = random.nextInt(text.length());
            char sign = signs.charAt(random.nextInt(signs.length()));
            text = text.substring(0, i) + sign + text.substring(chance(50) ? i : i + 1);
        }
        for (int i = 0; i < text.length() && right;) {
            int n = Math.min(text.length() - i, 1 + random.nextInt(8));
            long word = chance(50) ? random.nextLong() << 8 * n - 1 << 1 : 0;
            for (int j = 0; j < n; j++) {
                word |= (long) text.charAt(i + j) << 8 * j;
            }
            ask("feed", chance(50) || n == 8 ? word : word & (1L << 8 * n) - 1, n);
            i += n;
        }
    }

    private String text(int depth, int use) {
        if (depth == 0) {
            return chance(50) ? "" + (use == 0 ? "skm" : "tpc").charAt(random.nextInt(3)) : "" + random.nextInt(chance(50) ? 10 : 10000);
        }
        switch (random.nextInt(6)) {
            case 0: return "!" + text(depth - 1, use);
            case 1: case 2: return "(" + text(depth - 1, use) + ")";
            default: return text(depth - 1, use) + "|&<=>+-*/%".charAt(random.nextInt(10)) + text(depth - 1, use);
        }
    }
}

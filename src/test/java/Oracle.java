import java.math.BigInteger;
import java.util.ArrayList;
import java.util.Arrays;
import java.util.Comparator;
import java.util.HashMap;
import java.util.List;
import java.util.Map;

/**
 * The document told once more, by other ways: BASKETS as lists that are sorted, TEXTS as trees of
 * strings and FAULTS by trying what can go on, BODIES from a table, ERRORS thrown.
 */
final class Oracle {
    private static final class Refused extends RuntimeException {
        private static final long serialVersionUID = 1L;
        final int k;

        Refused(int k) {
            super(null, null, false, false);
            this.k = k;
        }
    }

    private static final int[] UNDER = {-1, 0, 0, 0, 2, 1, 0};
    private static final int BEYOND = 1;
    private static final int NONE = 2;
    private static final int STATE = 3;
    private static final int FULL = 4;
    private static final int KIND = 5;
    private static final int PARTED = 6;

    private Map<String, Object> shop = new HashMap<>();
    private Map<String, Object> image = null;
    private int images = 0;
    private final long[][] sheets = new long[4][];
    private final int[] bits = new int[4];
    private final List<Integer> trace = new ArrayList<>();
    private final int[] told = new int[7];

    Oracle() {
        shop.put("0", new int[] {1, 9, 19, 20, 99, 100, 250, 999});
        shop.put("1", new int[8]);
        shop.put("2", new int[] {9, 9, 9, 9, 9, 9, 9, 9});
        shop.put("km", new int[4]);
        shop.put("sums", new int[] {0, 0, 0, 1});
        shop.put("tape", "");
        shop.put("text0", "");
        shop.put("text1", "");
        shop.put("waiting", new int[0]);
    }

    long call(String name, long... a) {
        try {
            return answer(name, a);
        } catch (Refused r) {
            told[r.k]++;
            return -1000000000L - r.k;
        }
    }

    private static void ask(boolean holds, int k) {
        if (!holds) {
            throw new Refused(k);
        }
    }

    private static boolean in(long v, long least, long most) {
        return least <= v && v <= most;
    }

    private int[] ints(String what) {
        return (int[]) shop.get(what);
    }

    private int[] sums() {
        return ints("sums");
    }

    private String string(String what) {
        return (String) shop.get(what);
    }

    private long answer(String name, long[] a) {
        switch (name) {
            case "thing": case "thingIs": case "till": case "tillIs": case "as": case "figures": case "asks":
                return ofTills(name, a);
            case "feed": case "text": case "untell":
                return ofTexts(name, a);
            case "basket": case "pays": case "go": case "draws": case "seed":
                return ofGoes(name, a);
            case "more": case "inTwo": case "together": case "worth": case "dearer": case "nines":
            case "erring": case "wasIn":
                return cheaper(name, a);
            case "sheet": case "put": case "move": case "prices":
                return ofSheets(name, a);
            default:
                return others(name, a);
        }
    }

    // ---- things, tills

    private static final int[] LEAST = {1, 0, 0};
    private static final int[] MOST = {9999, 9999, 99};

    private long ofTills(String name, long[] a) {
        switch (name) {
            case "thing": {
                ask(in(a[0], 0, 7) && in(a[1], 0, 2), BEYOND);
                ask(in(a[2], LEAST[(int) a[1]], MOST[(int) a[1]]), BEYOND);
                int was = ints("" + a[1])[(int) a[0]];
                ints("" + a[1])[(int) a[0]] = (int) a[2];
                return was;
            }
            case "thingIs":
                ask(in(a[0], 0, 7) && in(a[1], 0, 3), BEYOND);
                return a[1] == 3 ? value((int) a[0], ints("0")[(int) a[0]]) : ints("" + a[1])[(int) a[0]];
            case "till": {
                ask(in(a[0], 0, 3) && in(a[1], 0, 69), BEYOND);
                int was = ints("km")[(int) a[0]];
                ints("km")[(int) a[0]] = (int) a[1];
                return was;
            }
            case "tillIs": {
                ask(in(a[0], 0, 3) && in(a[1], 0, 1), BEYOND);
                int km = ints("km")[(int) a[0]];
                return a[1] == 0 ? km / 10 : km % 10;
            }
            case "as": {
                ask(in(a[0], 0, 3) && in(a[1], 0, 6), BEYOND);
                int km = ints("km")[(int) a[0]];
                boolean is = false;
                for (int kind = km / 10; kind >= 0; kind = UNDER[kind]) {
                    is |= kind == a[1];
                }
                ask(is, KIND);
                return km % 10;
            }
            case "figures":
                ask(a[0] >= 0 && in(a[1], 2, 11), BEYOND);
                return figures(a[0], (int) a[1]);
            default:
                ask(in(a[0], 0, 3) && in(a[1], 0, 299970) && in(a[2], 0, 30), BEYOND);
                return due((int) a[0], (int) a[1], (int) a[2]);
        }
    }

    private static long figures(long sum, int base) {
        long all = 0;
        for (char c : Long.toString(sum, base).toCharArray()) {
            all += Character.digit(c, base);
        }
        return all;
    }

    private static long oneFigure(long sum, int base) {
        return sum < base ? sum : oneFigure(figures(sum, base), base);
    }

    private long due(int till, int sum, int k) {
        int kind = ints("km")[till] / 10;
        int m = ints("km")[till] % 10;
        if (k == 0) {
            return 0;
        }
        switch (kind) {
            case 0: return figures(sum, 10);
            case 1: return sum % 10;
            case 2: return oneFigure(sum, 10);
            case 3: return figures(sum + m, 10);
            case 4: return oneFigure(sum, m + 2);
            case 5: return Math.max(m, sum % 10);
            default: break;
        }
        String text = string("text0");
        if (text.isEmpty()) {
            return figures(sum, 10);
        }
        return Math.max(0, Math.min(9999, value(text, Map.of('s', sum, 'k', k, 'm', m))));
    }

    private int value(int thing, int price) {
        String text = string("text1");
        if (text.isEmpty()) {
            return 0;
        }
        int v = value(text, Map.of('t', thing, 'p', price, 'c', ints("1")[thing]));
        return Math.max(0, Math.min(99, v));
    }

    // ---- texts: the last sign of the loosest level outside of ( ) parts a TEXT

    private static final String[] LEVELS = {"|", "&", "<=>", "+-", "*/%"};

    private static int value(String text, Map<Character, Integer> names) {
        for (String level : LEVELS) {
            int depth = 0;
            for (int i = text.length() - 1; i >= 0; i--) {
                char c = text.charAt(i);
                depth += c == ')' ? 1 : c == '(' ? -1 : 0;
                if (depth == 0 && level.indexOf(c) >= 0) {
                    return joined(c, value(text.substring(0, i), names), value(text.substring(i + 1), names));
                }
            }
        }
        char c = text.charAt(0);
        if (c == '!') {
            return value(text.substring(1), names) == 0 ? 1 : 0;
        }
        if (c == '(') {
            return value(text.substring(1, text.length() - 1), names);
        }
        return Character.isDigit(c) ? Integer.parseInt(text) : names.get(c);
    }

    private static int joined(char c, int a, int b) {
        switch (c) {
            case '|': return (a == 0 ? 0 : 1) | (b == 0 ? 0 : 1);
            case '&': return (a == 0 ? 0 : 1) & (b == 0 ? 0 : 1);
            case '<': return a < b ? 1 : 0;
            case '=': return a == b ? 1 : 0;
            case '>': return a > b ? 1 : 0;
            case '+': return a + b;
            case '-': return a - b;
            case '*': return a * b;
            case '/': return b == 0 ? 0 : BigInteger.valueOf(a).divide(BigInteger.valueOf(b)).intValue();
            default: return b == 0 ? 0 : BigInteger.valueOf(a).remainder(BigInteger.valueOf(b)).intValue();
        }
    }

    /**
     * The FAULT, -1 if there is none, by what may stand behind what: open signs are kept as a row
     * of ! and (, each ( with c if it has been compared in since.
     */
    private static int fault(String text, String names) {
        StringBuilder open = new StringBuilder();
        boolean compared = false;
        boolean wantsOne = true;
        int digits = 0;
        for (int i = 0; i < text.length(); i++) {
            char c = text.charAt(i);
            int signs = (int) open.chars().filter(o -> o == '!' || o == '(').count();
            if (wantsOne && (c == '!' || c == '(')) {
                if (signs == 5) {
                    return i;
                }
                if (c == '(') {
                    open.append(compared ? "c(" : "(");
                    compared = false;
                } else {
                    open.append('!');
                }
                continue;
            }
            if (wantsOne && (Character.isDigit(c) || names.indexOf(c) >= 0)) {
                digits = Character.isDigit(c) ? 1 : 4;
                wantsOne = false;
                dropNots(open);
            } else if (!wantsOne && c < 128 && Character.isDigit(c) && digits < 4) {
                digits++;
            } else if (!wantsOne && c == ')' && open.indexOf("(") >= 0) {
                open.setLength(open.length() - 1);
                compared = open.length() > 0 && open.charAt(open.length() - 1) == 'c';
                open.setLength(open.length() - (compared ? 1 : 0));
                dropNots(open);
                digits = 4;
            } else if (!wantsOne && "|&+-*/%".indexOf(c) >= 0 || !wantsOne && !compared && "<=>".indexOf(c) >= 0) {
                compared = "|&".indexOf(c) < 0 && (compared || "<=>".indexOf(c) >= 0);
                wantsOne = true;
            } else {
                return i;
            }
        }
        return wantsOne || open.indexOf("(") >= 0 ? text.length() : -1;
    }

    private static void dropNots(StringBuilder open) {
        while (open.length() > 0 && open.charAt(open.length() - 1) == '!') {
            open.setLength(open.length() - 1);
        }
    }

    private long ofTexts(String name, long[] a) {
        switch (name) {
            case "feed": {
                ask(in(a[1], 1, 8), BEYOND);
                String tape = string("tape");
                ask(tape.length() + a[1] <= 60, FULL);
                for (int i = 0; i < a[1]; i++) {
                    tape += (char) (a[0] >> 8 * i & 255);
                }
                shop.put("tape", tape);
                return tape.length();
            }
            case "text": {
                ask(in(a[0], 0, 1), BEYOND);
                String tape = string("tape");
                shop.put("tape", "");
                int fault = fault(tape, a[0] == 0 ? "skm" : "tpc");
                if (fault >= 0) {
                    return -10 - fault;
                }
                shop.put("text" + a[0], tape);
                return 1;
            }
            default: {
                ask(in(a[0], 0, 1), BEYOND);
                return ((String) shop.put("text" + a[0], "")).isEmpty() ? 0 : 1;
            }
        }
    }

    // ---- baskets

    private static int things(int[] row) {
        return Arrays.stream(row).sum();
    }

    private int by(int[] row, int[] each) {
        int all = 0;
        for (int i = 0; i < 8; i++) {
            all += row[i] * each[i];
        }
        return all;
    }

    private int pays(int[] row, int till) {
        return (int) due(till, by(row, ints("0")), things(row));
    }

    private static int[] plus(int[] a, int[] b) {
        int[] row = new int[8];
        for (int i = 0; i < 8; i++) {
            row[i] = a[i] + b[i];
        }
        return row;
    }

    private int[] row(long sheet) {
        int[] row = new int[8];
        long[] numbers = sheets[(int) sheet];
        for (int i = 0; i < 8 && i < numbers.length; i++) {
            ask(in(numbers[i], 0, 9), BEYOND);
            row[i] = (int) numbers[i];
        }
        return row;
    }

    private int[] basketOf(long sheet, int most, boolean holds) {
        ask(in(sheet, 0, 3) && holds, BEYOND);
        ask(sheets[(int) sheet] != null, NONE);
        int[] row = row(sheet);
        ask(things(row) <= most, FULL);
        return row;
    }

    /** All rows with so many things at most. */
    private static List<int[]> rows(int most) {
        List<int[]> all = new ArrayList<>();
        all.add(new int[8]);
        for (int i = 0; i < 8; i++) {
            List<int[]> next = new ArrayList<>();
            for (int[] row : all) {
                for (int n = 0; n + things(row) <= most; n++) {
                    int[] with = row.clone();
                    with[i] = n;
                    next.add(with);
                }
            }
            all = next;
        }
        return all;
    }

    private boolean goes(int[] row, int till) {
        for (int i = 0; i < 8; i++) {
            if (row[i] > ints("2")[i]) {
                return false;
            }
        }
        int paid = pays(row, till);
        for (int i = 0; i < 8; i++) {
            ints("2")[i] -= row[i];
        }
        sums()[0] = Math.min(9999, sums()[0] + 1);
        sums()[1] = Math.min(99999999, sums()[1] + paid);
        sums()[2] = Math.min(99999999, sums()[2] + by(row, ints("1")));
        return true;
    }

    private int draw() {
        sums()[3] = sums()[3] * 1103515245 + 12345;
        return sums()[3] >>> 8;
    }

    private long ofGoes(String name, long[] a) {
        switch (name) {
            case "basket": {
                int[] row = basketOf(a[0], 30, in(a[1], 0, 2));
                return a[1] == 0 ? things(row) : by(row, ints(a[1] == 1 ? "0" : "1"));
            }
            case "pays":
                return pays(basketOf(a[0], 30, in(a[1], 0, 3)), (int) a[1]);
            case "go": {
                int[] row = basketOf(a[0], 30, in(a[1], 0, 3));
                ask(goes(row, (int) a[1]), STATE);
                return pays(row, (int) a[1]);
            }
            case "draws": {
                ask(in(a[0], 1, 60), BEYOND);
                int many = 0;
                for (int i = 0; i < a[0]; i++) {
                    int[] row = new int[8];
                    int thing = draw() % 8;
                    row[thing] = draw() % 4 + 1;
                    many += goes(row, draw() % 4) ? 1 : 0;
                }
                return many;
            }
            default: {
                int was = sums()[3];
                sums()[3] = (int) a[0];
                return was;
            }
        }
    }

    // ---- what is cheaper

    private int net(int[] row, int[] more, int till) {
        int worth = 0;
        for (int i = 0; i < 8; i++) {
            worth += more[i] * value(i, ints("0")[i]);
        }
        return pays(plus(row, more), till) - worth;
    }

    private int[] more(int[] row, int till, int e) {
        List<int[]> all = rows(e);
        all.removeIf(more -> things(plus(row, more)) > 30 || Arrays.stream(plus(row, more)).max().getAsInt() > 9);
        Map<int[], Integer> nets = new HashMap<>();
        for (int[] more : all) {
            nets.put(more, net(row, more, till));
        }
        Comparator<int[]> order = Comparator.comparing(nets::get);
        return all.stream().min(order.thenComparing(Oracle::things).thenComparing(Arrays::compare)).get();
    }

    private long dearer(int[] row, int till, int e) {
        int most = -1;
        int answer = -1;
        for (int code = 0; code < 80; code++) {
            int[] price = ints("0");
            int[] dear = price.clone();
            dear[code / 10] += code % 10;
            if (dear[code / 10] > 9999) {
                continue;
            }
            shop.put("0", dear);
            int paid = pays(plus(row, more(row, till, e)), till);
            shop.put("0", price);
            if (paid > most) {
                most = paid;
                answer = code;
            }
        }
        return answer;
    }

    private int inTwo(int[] row, int till) {
        int least = Integer.MAX_VALUE;
        List<int[]> parts = new ArrayList<>();
        parts.add(new int[8]);
        for (int i = 0; i < 8; i++) {
            for (int n = parts.size() - 1; n >= 0; n--) {
                for (int k = 1; k <= row[i]; k++) {
                    int[] part = parts.get(n).clone();
                    part[i] = k;
                    parts.add(part);
                }
            }
        }
        for (int[] part : parts) {
            int[] rest = new int[8];
            for (int i = 0; i < 8; i++) {
                rest[i] = row[i] - part[i];
            }
            least = Math.min(least, pays(part, till) + pays(rest, till));
        }
        return least;
    }

    private long cheaper(String name, long[] a) {
        switch (name) {
            case "more": {
                int till = (int) a[1];
                int[] row = basketOf(a[0], 30, in(a[1], 0, 3) && in(a[2], 0, 4) && in(a[3], -2, 7));
                int[] more = more(row, till, (int) a[2]);
                if (a[3] >= 0) {
                    return more[(int) a[3]];
                }
                return a[3] == -1 ? pays(plus(row, more), till) : net(row, more, till);
            }
            case "inTwo":
                return inTwo(basketOf(a[0], 12, in(a[1], 0, 3)), (int) a[1]);
            case "together": {
                ask(in(a[0], 0, 3) && in(a[1], 0, 3) && in(a[2], 0, 3), BEYOND);
                ask(sheets[(int) a[0]] != null && sheets[(int) a[1]] != null, NONE);
                int[] one = row(a[0]);
                int[] other = row(a[1]);
                ask(things(one) <= 30 && things(other) <= 30 && things(plus(one, other)) <= 30, FULL);
                int till = (int) a[2];
                return pays(one, till) + pays(other, till) - pays(plus(one, other), till);
            }
            case "worth": {
                int[] row = basketOf(a[0], 29, in(a[1], 0, 3) && in(a[2], 0, 7));
                int[] more = row.clone();
                more[(int) a[2]]++;
                return pays(row, (int) a[1]) - pays(more, (int) a[1]);
            }
            case "dearer":
                return dearer(basketOf(a[0], 30, in(a[1], 0, 3) && in(a[2], 0, 2)), (int) a[1], (int) a[2]);
            case "nines": {
                ask(in(a[0], -1, 3), BEYOND);
                if (a[0] < 0) {
                    return Arrays.stream(ints("0")).allMatch(p -> p % 9 == 0) ? 1 : 0;
                }
                return rows(3).stream().filter(r -> things(r) > 0).mapToInt(r -> pays(r, (int) a[0])).min().getAsInt();
            }
            case "erring": {
                boolean odds = in(a[2], 0, 288) && a[2] / 17 + a[2] % 17 <= 16;
                int[] row = basketOf(a[0], 30, in(a[1], 0, 3) && odds && in(a[3], 0, 1));
                long paid = pays(row, (int) a[1]);
                long u = a[2] / 17;
                long v = a[2] % 17;
                long above = (16 - u - v) * paid + u * (paid + 1) + v * Math.max(0, paid - 1);
                above = things(row) == 0 ? 0 : above;
                long common = BigInteger.valueOf(above).gcd(BigInteger.valueOf(16)).longValue();
                return (a[3] == 0 ? above : 16) / common;
            }
            default: {
                ask(in(a[0], 0, 3) && in(a[1], 0, 9999) && in(a[2], 0, 1), BEYOND);
                List<int[]> all = rows(3);
                all.removeIf(r -> things(r) == 0 || pays(r, (int) a[0]) != a[1]);
                ask(a[2] == 0 || !all.isEmpty(), NONE);
                if (a[2] == 0) {
                    return all.size();
                }
                StringBuilder first = new StringBuilder();
                for (int n : all.stream().min(Arrays::compare).get()) {
                    first.append(n);
                }
                return Long.parseLong(first.toString());
            }
        }
    }

    // ---- voices: a table of BODIES by VOICE and KIND

    private static final int[][] BODIES = {
        {10, 20, 0, 0, 0, 50, 70}, {11, 0, 30, 0, 60, 0, 71}, {12, 0, 0, 40, 0, 51, 0}, {13, 21, 0, 0, 0, 0, 0}};

    private int speak(int till, int voice, int from, int x) {
        int kind = from;
        while (BODIES[voice][kind] == 0) {
            kind = UNDER[kind];
        }
        int body = BODIES[voice][kind];
        trace.add(body);
        int own = ints("km")[till] / 10;
        int m = ints("km")[till] % 10;
        int up = UNDER[kind];
        switch (body) {
            case 10: return x + till;
            case 11: return speak(till, 0, own, x) * 2;
            case 12: return speak(till, 1, own, x) - m;
            case 13:
                ask(m != till, PARTED);
                return x / (m - till);
            case 20: return speak(till, 0, up, x) - 9;
            case 21: return speak(till, 3, up, x) + speak(till, 1, own, 1);
            case 30: return -speak(till, 1, up, x);
            case 40: return speak(till, 2, up, x / 2);
            case 50: return speak(till, 0, up, x) * 3;
            case 51: return speak(till, 2, up, x) ^ till;
            case 60: return speak(till, 1, up, x + 1);
            case 70: return 9;
            default: return speak(till, 1, up, x) + m;
        }
    }

    // ---- sheets

    private long ofSheets(String name, long[] a) {
        ask(in(a[0], 0, 3), BEYOND);
        int sheet = (int) a[0];
        switch (name) {
            case "sheet":
                ask(a[1] == 0 || a[1] == 8 || a[1] == 16 || a[1] == 32, BEYOND);
                ask(a[1] == 0 || a[2] >= 0, STATE);
                ask(a[1] == 0 || a[2] <= 24, BEYOND);
                sheets[sheet] = a[1] == 0 ? null : new long[(int) a[2]];
                bits[sheet] = (int) a[1];
                return 1;
            case "put":
                ask(sheets[sheet] != null, NONE);
                ask(in(a[1], 0, sheets[sheet].length - 1), BEYOND);
                sheets[sheet][(int) a[1]] = a[2] << 64 - bits[sheet] >> 64 - bits[sheet];
                return 1;
            case "move": {
                ask(in(a[2], 0, 3), BEYOND);
                int other = (int) a[2];
                ask(sheets[sheet] != null && sheets[other] != null, NONE);
                ask(bits[sheet] == bits[other], KIND);
                ask(a[4] >= 0 && a[1] >= 0 && a[3] >= 0, BEYOND);
                ask(a[1] + a[4] <= sheets[sheet].length && a[3] + a[4] <= sheets[other].length, BEYOND);
                long[] were = sheets[sheet].clone();
                for (int n = 0; n < a[4]; n++) {
                    sheets[other][(int) a[3] + n] = were[(int) a[1] + n];
                }
                return a[4];
            }
            default: {
                ask(sheets[sheet] != null, NONE);
                int many = 0;
                while (many < 8 && many < sheets[sheet].length && in(sheets[sheet][many], 1, 9999)) {
                    ints("0")[many] = (int) sheets[sheet][many];
                    many++;
                }
                return many;
            }
        }
    }

    // ---- what is left

    private static Map<String, Object> copy(Map<String, Object> of) {
        Map<String, Object> copy = new HashMap<>();
        of.forEach((key, v) -> copy.put(key, v instanceof int[] ? ((int[]) v).clone() : v));
        return copy;
    }

    private long check(long till) {
        int[] waiting = ints("waiting");
        shop.put("waiting", new int[0]);
        ask(in(till, 0, 3), BEYOND);
        for (int i = 0; i < waiting.length; i++) {
            if (waiting[i] != due((int) till, i + 1, 1)) {
                return i + 1;
            }
        }
        return 0;
    }

    private long others(String name, long[] a) {
        switch (name) {
            case "voice":
                ask(in(a[0], 0, 3) && in(a[1], 0, 3), BEYOND);
                trace.clear();
                return speak((int) a[0], (int) a[1], ints("km")[(int) a[0]] / 10, (int) a[2]);
            case "body":
                ask(in(a[0], 0, trace.size() - 1), NONE);
                return trace.get((int) a[0]);
            case "image":
                image = copy(shop);
                return ++images;
            case "restore":
                ask(image != null, NONE);
                shop = copy(image);
                return sums()[0];
            case "tell": {
                int[] waiting = ints("waiting");
                ask(waiting.length < 24, FULL);
                int[] with = Arrays.copyOf(waiting, waiting.length + 1);
                with[waiting.length] = (int) a[0];
                shop.put("waiting", with);
                return with.length;
            }
            case "check":
                return check(a[0]);
            case "count": {
                ask(in(a[0], 0, 7), BEYOND);
                long[] counts = {sums()[0], sums()[1], sums()[2], Arrays.stream(ints("2")).sum(),
                    string("tape").length(), ints("waiting").length, trace.size(), sums()[3]};
                return counts[(int) a[0]];
            }
            case "told":
                ask(in(a[0], 1, 6), BEYOND);
                return told[(int) a[0]];
            default:
                throw new IllegalArgumentException(name);
        }
    }
}

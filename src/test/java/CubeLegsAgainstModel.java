import java.util.ArrayDeque;
import java.util.ArrayList;
import java.util.Comparator;
import java.util.Deque;
import java.util.LinkedHashMap;
import java.util.List;
import java.util.Map;
import java.util.Random;
import java.util.TreeMap;

/**
 * Runs of drawn calls, answered by CubeLegs and by a slow model that follows the document's words
 * (means as sums over every draw, choices by the whole mean anew, runs by sorted queues).
 */
public final class CubeLegsAgainstModel {
    private static final int RUNS = 400;
    private static final int CALLS = 512;

    private static final class Snapshot {
        final int d;
        final int order;
        final int rule;
        final List<int[]> parcels = new ArrayList<>();

        Snapshot(int d, int order, int rule, List<int[]> parcels) {
            this.d = d;
            this.order = order;
            this.rule = rule;
            for (int[] p : parcels) {
                this.parcels.add(p.clone());
            }
        }
    }

    private static final class Model {
        int d = 3;
        int order = 0;
        int rule = 0;
        List<int[]> parcels = new ArrayList<>();
        final Deque<Snapshot> states = new ArrayDeque<>();
        String text = "";
        final int[] refused = new int[3];
        long above = 0;
        long below = 1;

        // The last run.
        int[] home;
        int[] delay;
        int most;
        int ticks;
        final List<int[]> places = new ArrayList<>();

        int refuse(int code) {
            refused[-2 - code]++;
            return code;
        }

        int corners() {
            return (int) Math.pow(2, d);
        }

        static boolean in(int v, int low, int high) {
            return low <= v && v <= high;
        }

        void leave() {
            states.addLast(new Snapshot(d, order, rule, parcels));
            if (states.size() > 6) {
                states.removeFirst();
            }
        }

        List<Integer> leg(int start, int aim) {
            List<Integer> stops = new ArrayList<>();
            int at = start;
            for (int i = 0; i < d; i++) {
                int side = order == 0 ? i : d - 1 - i;
                if ((at >> side & 1) != (aim >> side & 1)) {
                    at = (at >> side & 1) == 1 ? at - (1 << side) : at + (1 << side);
                    stops.add(at);
                }
            }
            return stops;
        }

        List<Integer> stops(int[] parcel, int between) {
            List<Integer> stops = new ArrayList<>(List.of(parcel[0]));
            stops.addAll(leg(parcel[0], between));
            stops.addAll(leg(between, parcel[1]));
            return stops;
        }

        /** Edges as 10 times the corner and the side. */
        List<Integer> edges(int[] parcel, int between) {
            List<Integer> stops = stops(parcel, between);
            List<Integer> edges = new ArrayList<>();
            for (int k = 0; k + 1 < stops.size(); k++) {
                edges.add(10 * stops.get(k) + Integer.numberOfTrailingZeros(stops.get(k) ^ stops.get(k + 1)));
            }
            return edges;
        }

        Map<Integer, Long> noLoads() {
            Map<Integer, Long> loads = new TreeMap<>();
            for (int corner = 0; corner < corners(); corner++) {
                for (int side = 0; side < d; side++) {
                    loads.put(10 * corner + side, 0L);
                }
            }
            return loads;
        }

        Map<Integer, Long> loads(boolean straight) {
            Map<Integer, Long> loads = noLoads();
            for (int[] p : parcels) {
                edges(p, straight ? p[0] : p[2]).forEach(e -> loads.merge(e, 1L, Long::sum));
            }
            return loads;
        }

        /** Expected loads times the number of corners. */
        Map<Integer, Long> means(int fixed) {
            Map<Integer, Long> loads = noLoads();
            for (int i = 0; i < parcels.size(); i++) {
                int[] p = parcels.get(i);
                for (int b = 0; b < corners(); b++) {
                    edges(p, i < fixed ? p[2] : b).forEach(e -> loads.merge(e, 1L, Long::sum));
                }
            }
            return loads;
        }

        static long greatest(Map<Integer, Long> loads) {
            return loads.values().stream().mapToLong(v -> v).max().orElse(0);
        }

        static int first(Map<Integer, Long> loads) {
            long most = greatest(loads);
            return loads.keySet().stream().filter(e -> loads.get(e) == most).findFirst().orElse(-1);
        }

        void fraction(long scaled) {
            long a = scaled;
            long b = corners();
            while (b != 0) {
                long rest = a % b;
                a = b;
                b = rest;
            }
            above = scaled / a;
            below = corners() / a;
        }

        int loadsFact(int what) {
            Map<Integer, Long> loads = loads(false);
            long most = greatest(loads);
            switch (what) {
                case 0: return (int) most;
                case 1: return (int) loads.values().stream().filter(v -> v == most).count();
                case 2: return (int) loads.values().stream().filter(v -> v > 0).count();
                default: return most == 0 ? -1 : first(loads);
            }
        }

        int fact(int p, int what) {
            int[] me = parcels.get(p);
            if (what < 4) {
                return me[what];
            }
            List<Integer> mine = edges(me, me[2]);
            if (what == 4) {
                return mine.size();
            }
            int met = 0;
            for (int[] other : parcels) {
                if (other != me && edges(other, other[2]).stream().anyMatch(mine::contains)) {
                    met++;
                }
            }
            return met;
        }

        int chooses() {
            for (int p = 0; p < parcels.size(); p++) {
                List<long[]> tries = new ArrayList<>();
                for (int b = 0; b < corners(); b++) {
                    parcels.get(p)[2] = b;
                    Map<Integer, Long> means = means(p + 1);
                    tries.add(new long[] {greatest(means), means.values().stream().mapToLong(v -> v * v).sum(), b});
                }
                tries.sort(Comparator.<long[]>comparingLong(t -> t[0]).thenComparingLong(t -> t[1])
                    .thenComparingLong(t -> t[2]));
                parcels.get(p)[2] = (int) tries.get(0)[2];
            }
            return loadsFact(0);
        }

        void runs(int byRule) {
            int n = parcels.size();
            home = new int[n];
            delay = new int[n];
            most = 0;
            ticks = 0;
            places.clear();
            int[] gone = new int[n];
            int[] came = new int[n];
            List<List<Integer>> edges = new ArrayList<>();
            List<List<Integer>> stops = new ArrayList<>();
            int[] firstLeg = new int[n];
            for (int i = 0; i < n; i++) {
                edges.add(edges(parcels.get(i), parcels.get(i)[2]));
                stops.add(stops(parcels.get(i), parcels.get(i)[2]));
                firstLeg[i] = leg(parcels.get(i)[0], parcels.get(i)[2]).size();
            }
            Comparator<Integer> ranked = Comparator.<Integer>comparingInt(p -> -parcels.get(p)[3])
                .thenComparingInt(p -> p);
            List<Comparator<Integer>> rules = List.of(
                Comparator.<Integer>comparingInt(p -> came[p]).thenComparing(ranked),
                ranked,
                Comparator.<Integer>comparingInt(p -> gone[p] - edges.get(p).size()).thenComparing(ranked),
                Comparator.<Integer>comparingInt(p -> gone[p] >= firstLeg[p] ? 0 : 1).thenComparing(ranked));
            while (true) {
                int[] now = new int[n];
                Map<Integer, List<Integer>> queues = new LinkedHashMap<>();
                for (int p = 0; p < n; p++) {
                    now[p] = stops.get(p).get(gone[p]);
                    if (gone[p] < edges.get(p).size()) {
                        queues.computeIfAbsent(edges.get(p).get(gone[p]), e -> new ArrayList<>()).add(p);
                    }
                }
                places.add(now);
                if (queues.isEmpty()) {
                    return;
                }
                ticks++;
                List<Integer> going = new ArrayList<>();
                for (List<Integer> queue : queues.values()) {
                    most = Math.max(most, queue.size());
                    queue.sort(rules.get(byRule));
                    going.add(queue.get(0));
                    queue.subList(1, queue.size()).forEach(p -> delay[p]++);
                }
                for (int p : going) {
                    gone[p]++;
                    came[p] = ticks;
                    if (gone[p] == edges.get(p).size()) {
                        home[p] = ticks;
                    }
                }
            }
        }

        int runFact(int what) {
            runs(rule);
            int worst = -1;
            int sum = 0;
            for (int p = parcels.size() - 1; p >= 0; p--) {
                sum += delay[p];
                if (worst < 0 || delay[p] >= delay[worst]) {
                    worst = p;
                }
            }
            return new int[] {ticks, sum, worst < 0 ? 0 : delay[worst], worst, most}[what];
        }

        /** A table of what may follow what, sign by sign; numbers are taken whole. */
        int reads() {
            String[] next = {"n", ">", "n", "/*;", "n", "*;", "n", ";"};
            List<int[]> found = new ArrayList<>();
            int state = 0;
            int[] now = null;
            int i = 0;
            while (i < text.length()) {
                char c = text.charAt(i);
                if (c == ' ') {
                    i++;
                    continue;
                }
                if (next[state].equals("n")) {
                    if (state == 0) {
                        if (parcels.size() + found.size() == 16) {
                            return -10 - i;
                        }
                        now = new int[4];
                    }
                    int end = i;
                    while (end < text.length() && Character.isDigit(text.charAt(end))) {
                        end++;
                    }
                    if (end == i || end - i > 2) {
                        return -10 - i;
                    }
                    int number = Integer.parseInt(text.substring(i, end));
                    if (state != 6 && number >= corners()) {
                        return -10 - i;
                    }
                    now[state / 2] = number;
                    if (state == 0) {
                        now[2] = number;
                    }
                    i = end;
                    state++;
                    continue;
                }
                if (next[state].indexOf(c) < 0) {
                    return -10 - i;
                }
                switch (c) {
                    case '>': state = 2; break;
                    case '/': state = 4; break;
                    case '*': state = 6; break;
                    default: found.add(now); state = 0;
                }
                i++;
            }
            if (state != 0 || found.isEmpty()) {
                return -10 - text.length();
            }
            leave();
            parcels.addAll(found);
            return found.size();
        }

        int fills(int how, int seed) {
            leave();
            parcels.clear();
            java.math.BigInteger x = java.math.BigInteger.valueOf(seed);
            for (int c = 0; c < corners(); c++) {
                x = x.multiply(java.math.BigInteger.valueOf(1103515245)).add(java.math.BigInteger.valueOf(12345))
                    .mod(java.math.BigInteger.valueOf(2147483648L));
                long v = x.longValue();
                int to;
                switch (how) {
                    case 0: to = ~c & corners() - 1; break;
                    case 1: to = Integer.reverse(c) >>> 32 - d; break;
                    case 2: to = (c + 1) % corners(); break;
                    default: to = (int) ((v >> 15) % corners());
                }
                parcels.add(new int[] {c, to, (int) ((v >> 16) % corners()), (int) ((v >> 10) % 100)});
            }
            return parcels.size();
        }

        int told(int what) {
            switch (what) {
                case 3: return text.length();
                case 4: return d;
                case 5: return parcels.size();
                case 6: return order;
                case 7: return rule;
                case 8: return states.size();
                default: return in(what, 0, 2) ? refused[what] : refuse(-2);
            }
        }

        long digest() {
            List<Long> values = new ArrayList<>();
            for (int what = 0; what < 9; what++) {
                values.add((long) told(what));
            }
            for (int p = 0; p < parcels.size(); p++) {
                for (int what = 0; what < 6; what++) {
                    values.add((long) fact(p, what));
                }
            }
            values.add(above);
            values.add(below);
            for (int what = 0; what < 3; what++) {
                values.add((long) loadsFact(what));
            }
            for (int what = 0; what < 3; what++) {
                values.add((long) runFact(what));
            }
            long h = 2141;
            for (long v : values) {
                h = 31 * h + v;
            }
            return h;
        }

        boolean is(int p) {
            return in(p, 0, parcels.size() - 1);
        }

        boolean corner(int c) {
            return in(c, 0, corners() - 1);
        }

        long call(String name, int a, int b, int c, int e) {
            switch (name) {
                case "sides":
                    if (!in(a, 1, 4)) {
                        return refuse(-2);
                    }
                    leave();
                    int wasD = d;
                    d = a;
                    parcels.clear();
                    return wasD;
                case "parcel":
                    if (!corner(a) || !corner(b) || !corner(c) || !in(e, 0, 99)) {
                        return refuse(-2);
                    }
                    if (parcels.size() == 16) {
                        return refuse(-4);
                    }
                    leave();
                    parcels.add(new int[] {a, b, c, e});
                    return parcels.size() - 1;
                case "sets":
                    if (!is(a) || !in(b, 0, 3) || !(b == 3 ? in(c, 0, 99) : corner(c))) {
                        return refuse(-2);
                    }
                    leave();
                    int was = parcels.get(a)[b];
                    parcels.get(a)[b] = c;
                    return was;
                case "rules":
                    if (!in(a, 0, 1) || !in(b, 0, a == 0 ? 1 : 3)) {
                        return refuse(-2);
                    }
                    leave();
                    int wasRule = a == 0 ? order : rule;
                    order = a == 0 ? b : order;
                    rule = a == 1 ? b : rule;
                    return wasRule;
                case "empties":
                    leave();
                    int were = parcels.size();
                    parcels.clear();
                    return were;
                case "fills":
                    return in(a, 0, 3) && in(b, 0, 999999) ? fills(a, b) : refuse(-2);
                case "of":
                    return is(a) && in(b, 0, 5) ? fact(a, b) : refuse(-2);
                case "step":
                    if (!is(a) || b < 0) {
                        return refuse(-2);
                    }
                    List<Integer> stops = stops(parcels.get(a), parcels.get(a)[2]);
                    return b < stops.size() ? stops.get(b) : -5;
                case "load":
                    return corner(a) && in(b, 0, d - 1) ? loads(false).get(10 * a + b) : refuse(-2);
                case "loads":
                    return in(a, 0, 3) ? loadsFact(a) : refuse(-2);
                case "expected":
                    if (!corner(a) || !in(b, 0, d - 1) || !in(c, 0, 16)) {
                        return refuse(-2);
                    }
                    fraction(means(c).get(10 * a + b));
                    return 1;
                case "part":
                    return a == 0 ? above : a == 1 ? below : refuse(-2);
                default:
                    return laterCall(name, a, b, c);
            }
        }

        private long laterCall(String name, int a, int b, int c) {
            switch (name) {
                case "greatest":
                    if (parcels.isEmpty()) {
                        return refuse(-3);
                    }
                    fraction(greatest(means(0)));
                    return first(means(0));
                case "chooses":
                    if (parcels.isEmpty()) {
                        return refuse(-3);
                    }
                    leave();
                    return chooses();
                case "run":
                    return in(a, 0, 4) ? runFact(a) : refuse(-2);
                case "ran":
                    if (!is(a) || !in(b, 0, 2) || b == 2 && !in(c, 0, 400)) {
                        return refuse(-2);
                    }
                    runs(rule);
                    return b == 0 ? home[a] : b == 1 ? delay[a] : places.get(Math.min(c, ticks))[a];
                case "best":
                    if (!in(a, 0, 1)) {
                        return refuse(-2);
                    }
                    int least = 0;
                    int[] took = new int[4];
                    for (int r = 0; r < 4; r++) {
                        runs(r);
                        took[r] = ticks;
                        least = took[r] < took[least] ? r : least;
                    }
                    return a == 0 ? least : took[least];
                case "straight":
                    return greatest(loads(true));
                case "type":
                    if (!in(a, 0, 127)) {
                        return refuse(-2);
                    }
                    if (text.length() == 120) {
                        return refuse(-4);
                    }
                    text += (char) a;
                    return text.length();
                case "clear":
                    int had = text.length();
                    text = "";
                    return had;
                case "reads":
                    return reads();
                case "back":
                    if (states.isEmpty()) {
                        return refuse(-3);
                    }
                    Snapshot last = states.removeLast();
                    d = last.d;
                    order = last.order;
                    rule = last.rule;
                    parcels = last.parcels;
                    return states.size();
                case "told":
                    return told(a);
                default:
                    return digest();
            }
        }
    }

    private static long call(CubeLegs x, String name, int a, int b, int c, int e) {
        switch (name) {
            case "sides": return x.sides(a);
            case "parcel": return x.parcel(a, b, c, e);
            case "sets": return x.sets(a, b, c);
            case "rules": return x.rules(a, b);
            case "empties": return x.empties();
            case "fills": return x.fills(a, b);
            case "of": return x.of(a, b);
            case "step": return x.step(a, b);
            case "load": return x.load(a, b);
            case "loads": return x.loads(a);
            case "expected": return x.expected(a, b, c);
            case "part": return x.part(a);
            case "greatest": return x.greatest();
            case "chooses": return x.chooses();
            case "run": return x.run(a);
            case "ran": return x.ran(a, b, c);
            case "best": return x.best(a);
            case "straight": return x.straight();
            case "type": return x.type(a);
            case "clear": return x.clear();
            case "reads": return x.reads();
            case "back": return x.back();
            case "told": return x.told(a);
            default: return x.digest();
        }
    }

    private static final String[] NAMES = {"sides", "parcel", "parcel", "parcel", "parcel", "parcel", "sets", "sets",
        "sets", "rules", "rules", "empties", "fills", "of", "of", "step", "load", "loads", "expected", "expected",
        "part", "part", "greatest", "chooses", "run", "run", "ran", "ran", "best", "straight", "text", "back",
        "back", "told", "digest", "digest"};
    private static final String[] PIECES = {"0", "1", "7", "3", "12", "9", "15", "16", "99", "100", "x", " ", "  ",
        ";", "/", "*", ">"};

    private final Random random = new Random(2141);
    private int wrong = 0;

    private int pick(int... values) {
        return values[random.nextInt(values.length)];
    }

    /** Mostly as told, now and then beside it. */
    private int near(int low, int high) {
        if (random.nextInt(25) == 0) {
            return pick(low - 1, high + 1, Integer.MIN_VALUE, Integer.MAX_VALUE);
        }
        return low + random.nextInt(Math.max(1, high - low + 1));
    }

    private String drawText(Model model) {
        StringBuilder text = new StringBuilder();
        int parcels = random.nextInt(20) == 0 ? 0 : 1 + random.nextInt(random.nextInt(4) == 0 ? 17 : 4);
        for (int i = 0; i < parcels; i++) {
            text.append(random.nextInt(4) == 0 ? " " : "").append(random.nextInt(model.corners())).append('>');
            text.append(random.nextInt(4) == 0 ? " " : "").append(random.nextInt(model.corners()));
            text.append(random.nextInt(2) == 0 ? "/" + random.nextInt(model.corners()) : "");
            text.append(random.nextInt(2) == 0 ? " *" + random.nextInt(100) : "").append(';');
        }
        if (random.nextInt(2) == 0) {
            int at = random.nextInt(text.length() + 1);
            int cut = Math.min(text.length(), at + random.nextInt(3));
            text.replace(at, cut, PIECES[random.nextInt(PIECES.length)]);
        }
        return text.substring(0, Math.min(text.length(), 120));
    }

    private int[] drawArguments(String name, Model model) {
        int corner = model.corners() - 1;
        int last = model.parcels.size() - 1;
        switch (name) {
            case "sides": return new int[] {near(1, 4), 0, 0, 0};
            case "parcel": return new int[] {near(0, corner), near(0, corner), near(0, corner), near(0, pick(2, 99))};
            case "sets":
                int what = near(0, 3);
                return new int[] {near(0, last), what, what == 3 ? near(0, 99) : near(0, corner), 0};
            case "rules":
                int which = near(0, 1);
                return new int[] {which, which == 0 ? near(0, 1) : near(0, 3), 0, 0};
            case "fills": return new int[] {near(0, 3), near(0, 999999), 0, 0};
            case "of": return new int[] {near(0, last), near(0, 5), 0, 0};
            case "step": return new int[] {near(0, last), near(0, 9), 0, 0};
            case "load": return new int[] {near(0, corner), near(0, model.d - 1), 0, 0};
            case "expected": return new int[] {near(0, corner), near(0, model.d - 1), near(0, 16), 0};
            case "ran": return new int[] {near(0, last), near(0, 2), near(0, pick(6, 400)), 0};
            case "loads": return new int[] {near(0, 3), 0, 0, 0};
            case "run": return new int[] {near(0, 4), 0, 0, 0};
            case "type": return new int[] {near(0, 127), 0, 0, 0};
            case "told": return new int[] {near(0, 8), 0, 0, 0};
            default: return new int[] {near(0, 1), 0, 0, 0};
        }
    }

    private void both(int run, int at, CubeLegs x, Model model, String name, int[] v) {
        long want = model.call(name, v[0], v[1], v[2], v[3]);
        long got = call(x, name, v[0], v[1], v[2], v[3]);
        if (got != want && wrong++ < 20) {
            System.out.println("run " + run + ", call " + at + ": " + name + java.util.Arrays.toString(v)
                + " answered " + got + ", the model " + want);
        }
    }

    private void oneRun(int run) {
        CubeLegs x = new CubeLegs();
        Model model = new Model();
        int at = 0;
        while (at < CALLS) {
            String name = NAMES[random.nextInt(NAMES.length)];
            if (!name.equals("text")) {
                both(run, at++, x, model, name, drawArguments(name, model));
                continue;
            }
            if (random.nextInt(8) != 0) {
                both(run, at++, x, model, "clear", new int[4]);
            }
            String text = drawText(model);
            for (int i = 0; i < text.length(); i++) {
                both(run, at++, x, model, "type", new int[] {text.charAt(i), 0, 0, 0});
            }
            both(run, at++, x, model, "reads", new int[4]);
            both(run, at++, x, model, "digest", new int[4]);
        }
    }

    public static void main(String[] args) {
        CubeLegsAgainstModel test = new CubeLegsAgainstModel();
        for (int run = 0; run < RUNS; run++) {
            test.oneRun(run);
        }
        System.out.println(test.wrong == 0 ? "all answers are as due" : test.wrong + " answers are not as due");
        if (test.wrong != 0) {
            System.exit(1);
        }
    }
}

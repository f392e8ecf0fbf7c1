import java.lang.annotation.Retention;
import java.lang.annotation.RetentionPolicy;
import java.lang.reflect.InvocationTargetException;
import java.lang.reflect.Method;
import java.math.BigInteger;
import java.util.Arrays;
import java.util.Comparator;
import java.util.List;
import java.util.function.Supplier;
import java.util.function.ToIntFunction;

/**
 * A test for each sentence of the document that names a boundary: the input just inside it and the one
 * just outside. Each test bears the sentence; a refused call is always looked at whole (see refused).
 */
public final class CubeLegsBoundaries {
    private static final int NONE = -1, BAD = -2, NO = -3, FULL = -4, NOT_SO_MANY = -5;

    @Retention(RetentionPolicy.RUNTIME)
    private @interface Says {
        String value();
    }

    private interface Call {
        int on(CubeLegs x, int v);
    }

    private static String sentence = "";
    private static int wrong = 0;

    private static void due(String call, long got, long want) {
        if (got != want) {
            wrong++;
            System.out.println(sentence + ": " + call + " answered " + got + ", due is " + want);
        }
    }

    private static void dueTold(CubeLegs x, int... want) {
        for (int what = 0; what < want.length; what++) {
            due("told(" + what + ")", x.told(what), want[what]);
        }
    }

    private static void dueParcel(CubeLegs x, int p, int... want) {
        for (int what = 0; what < want.length; what++) {
            due("of(" + p + ", " + what + ")", x.of(p, what), want[what]);
        }
    }

    private static void dueFraction(CubeLegs x, int above, int below) {
        due("part(0)", x.part(0), above);
        due("part(1)", x.part(1), below);
    }

    private static void dueHomes(CubeLegs x, int... want) {
        for (int p = 0; p < want.length; p++) {
            due("ran(" + p + ", 0, 0)", x.ran(p, 0, 0), want[p]);
        }
    }

    private static void dueSteps(CubeLegs x, int p, int... want) {
        for (int k = 0; k < want.length; k++) {
            due("step(" + p + ", " + k + ")", x.step(p, k), want[k]);
        }
        due("step behind the last", x.step(p, want.length), NOT_SO_MANY);
        due("EDGES", x.of(p, 4), want.length - 1);
    }

    private static void types(CubeLegs x, String text) {
        x.clear();
        for (int i = 0; i < text.length(); i++) {
            due("type", x.type(text.charAt(i)), i + 1);
        }
    }

    private static void dueReads(CubeLegs x, String text, int want) {
        types(x, text);
        due("reads of '" + text + "'", x.reads(), want);
    }

    /** A FAULT, on a new object; nothing may be done by it and nothing may count. */
    private static void dueFault(Supplier<CubeLegs> made, String text, int place) {
        CubeLegs x = made.get();
        CubeLegs twin = made.get();
        types(x, text);
        types(twin, text);
        due("reads of '" + text + "'", x.reads(), -10 - place);
        dueSame("reads of '" + text + "'", x, twin, -1);
    }

    private static CubeLegs cube(int d) {
        CubeLegs x = new CubeLegs();
        x.sides(d);
        return x;
    }

    /** As many parcels alike, of no rank. */
    private static CubeLegs alike(int d, int count, int from, int to, int between) {
        CubeLegs x = cube(d);
        for (int i = 0; i < count; i++) {
            x.parcel(from, to, between, 0);
        }
        return x;
    }

    /** Three parcels, four states, a fraction and a text, on as many sides. */
    private static CubeLegs some(int d) {
        CubeLegs x = alike(d, 2, 0, 1, 1);
        x.parcel(1, 1, 0, 9);
        x.expected(1, 0, 1);
        types(x, "1>0/1*23;");
        return x;
    }

    /** Sixteen parcels, six states, both rules changed, a fraction, and a text of 120 bytes. */
    private static CubeLegs full() {
        CubeLegs x = cube(4);
        x.fills(3, 77);
        x.rules(0, 1);
        x.rules(1, 2);
        x.sets(15, 3, 42);
        x.sets(0, 2, 9);
        x.expected(3, 1, 5);
        types(x, "1>0/1*23;".repeat(13) + "   ");
        return x;
    }

    /** How much one more of told(which) is in digest. */
    private static long weight(int which, int parcels) {
        long weight = 1;
        for (int i = which + 1; i < 9 + 6 * parcels + 2 + 3 + 3; i++) {
            weight *= 31;
        }
        return weight;
    }

    /** x is as its twin, its states and its text, too, but for one refusal more of a kind (-1: of none). */
    private static void dueSame(String call, CubeLegs x, CubeLegs twin, int which) {
        for (int what = 0; what < 3; what++) {
            due("told(" + what + ") behind " + call, x.told(what), twin.told(what) + (what == which ? 1 : 0));
        }
        boolean more = true;
        for (int i = 0; more && i < 8; i++) {
            int parcels = twin.told(5);
            due("told(5) behind " + call, x.told(5), parcels);
            long extra = which < 0 ? 0 : weight(which, parcels);
            due("digest() behind " + call, x.digest(), twin.digest() + extra);
            int left = twin.back();
            due("back() behind " + call, x.back(), left);
            more = left != NO;
        }
        x.empties();
        twin.empties();
        due("reads() behind " + call, x.reads(), twin.reads());
        for (int p = 0; p < twin.told(5); p++) {
            dueParcel(x, p, twin.of(p, 0), twin.of(p, 1), twin.of(p, 2), twin.of(p, 3));
        }
    }

    /** The call is refused with the code, and changes nothing but how often. */
    private static void refused(String name, Supplier<CubeLegs> made, ToIntFunction<CubeLegs> call, int code) {
        CubeLegs x = made.get();
        due(name, call.applyAsInt(x), code);
        dueSame(name, x, made.get(), BAD - code);
    }

    /** The call is not refused; what else it answers, the tests of its promise tell. */
    private static void taken(String name, Supplier<CubeLegs> made, ToIntFunction<CubeLegs> call) {
        CubeLegs x = made.get();
        int[] before = {x.told(0), x.told(1), x.told(2)};
        int got = call.applyAsInt(x);
        due(name + " is refused", got == BAD || got == NO || got == FULL ? 1 : 0, 0);
        dueTold(x, before);
    }

    /** The number may be from low to high: both ends are taken, what lies beside them is BAD. */
    private static void span(String name, Supplier<CubeLegs> made, int low, int high, Call call) {
        for (int v : new int[] {low, high}) {
            taken(name + " " + v, made, x -> call.on(x, v));
        }
        for (int v : new int[] {low - 1, high + 1, Integer.MIN_VALUE, Integer.MAX_VALUE}) {
            refused(name + " " + v, made, x -> call.on(x, v), BAD);
        }
    }

    // ---- the terms: the cube

    @Says("An object is used for at most 512 calls")
    private static void all512CallsAnswer() {
        CubeLegs x = new CubeLegs();
        for (int i = 0; i < 511; i++) {
            due("told(9)", x.told(9), BAD);
        }
        due("told(0), call 512", x.told(0), 511);
        x = new CubeLegs();
        for (int i = 0; i < 511; i++) {
            due("empties()", x.empties(), 0);
        }
        due("told(8), call 512", x.told(8), 6);
    }

    @Says("D SIDES (1 .. 4; 3 at first)")
    private static void sidesAre1To4And3AtFirst() {
        due("told(4)", new CubeLegs().told(4), 3);
        due("sides(3)", new CubeLegs().sides(3), 3);
        span("sides", () -> some(3), 1, 4, CubeLegs::sides);
    }

    @Says("2 to the D CORNERS (as bits)")
    private static void cornersAre2ToTheD() {
        for (int d = 1; d <= 4; d++) {
            int sides = d;
            int last = new int[] {0, 1, 3, 7, 15}[d];
            Supplier<CubeLegs> made = () -> some(sides);
            span("FROM", made, 0, last, (x, v) -> x.parcel(v, 0, 0, 0));
            span("TO", made, 0, last, (x, v) -> x.parcel(0, v, 0, 0));
            span("BETWEEN", made, 0, last, (x, v) -> x.parcel(0, 0, v, 0));
            CubeLegs x = cube(d);
            x.parcel(last, last, last, 0);
            dueParcel(x, 0, last, last, last, 0, 0, 0);
        }
    }

    @Says("EDGES: from a CORNER along a SIDE to the one whose bit of that SIDE is the other one (each way one of its own)")
    private static void edgesGoEachWay() {
        for (int d = 1; d <= 4; d++) {
            for (int corner = 0; corner < 1 << d; corner++) {
                for (int side = 0; side < d; side++) {
                    CubeLegs x = cube(d);
                    x.parcel(corner, corner ^ 1 << side, corner, 0);
                    dueSteps(x, 0, corner, corner ^ 1 << side);
                    due("load there", x.load(corner, side), 1);
                    due("load back", x.load(corner ^ 1 << side, side), 0);
                    due("loads(2)", x.loads(2), 1);
                    due("loads(3)", x.loads(3), 10 * corner + side);
                }
            }
        }
    }

    // ---- the terms: parcels

    @Says("PARCELS 0 .. 15, as they come")
    private static void parcelsAre0To15() {
        CubeLegs x = cube(4);
        for (int p = 0; p < 16; p++) {
            due("parcel", x.parcel(p, 15 - p, 0, 99 - p), p);
        }
        due("parcel 16", x.parcel(0, 0, 0, 0), FULL);
        for (int p = 0; p < 16; p++) {
            dueParcel(x, p, p, 15 - p, 0, 99 - p);
        }
        due("of(16, 0)", x.of(16, 0), BAD);
        due("told(5)", x.told(5), 16);
    }

    @Says("a RANK (0 .. 99)")
    private static void ranksAre0To99() {
        for (int d = 1; d <= 4; d++) {
            int sides = d;
            span("RANK", () -> some(sides), 0, 99, (x, v) -> x.parcel(0, 0, 0, v));
            span("RANK", () -> some(sides), 0, 99, (x, v) -> x.sets(1, 3, v));
        }
    }

    @Says("WAY of a PARCEL: its LEGS: from FROM to BETWEEN, then from BETWEEN to TO")
    private static void legsMayBeEmptyOrWhole() {
        CubeLegs x = cube(4);
        x.parcel(5, 5, 5, 0);
        dueSteps(x, 0, 5);
        x.parcel(5, 4, 5, 0);
        dueSteps(x, 1, 5, 4);
        x.parcel(5, 4, 4, 0);
        dueSteps(x, 2, 5, 4);
        x.parcel(0, 0, 15, 0);
        dueSteps(x, 3, 0, 1, 3, 7, 15, 14, 12, 8, 0);
        x.parcel(15, 15, 0, 0);
        dueSteps(x, 4, 15, 14, 12, 8, 0, 1, 3, 7, 15);
    }

    @Says("the SIDES by THE ORDER (rising at first, 0 ahead; or falling)")
    private static void sidesRiseOrFall() {
        for (int d = 1; d <= 4; d++) {
            CubeLegs x = cube(d);
            int last = (1 << d) - 1;
            x.parcel(0, last, 0, 0);
            due("the first CORNER, rising", x.step(0, 1), 1);
            due("the last but one, rising", x.step(0, d - 1), last >> 1);
            x.rules(0, 1);
            due("the first CORNER, falling", x.step(0, 1), 1 << d - 1);
            due("the last but one, falling", x.step(0, d - 1), last - 1);
        }
    }

    @Says("LOAD of an EDGE: how many times PARCELS' WAYS use it (both LEGS). CONGESTION: the greatest LOAD.")
    private static void loadsAre0To16() {
        CubeLegs x = cube(1);
        for (int count = 0; count <= 16; count++) {
            due("load(0, 0)", x.load(0, 0), count);
            due("load(1, 0)", x.load(1, 0), 0);
            due("loads(0)", x.loads(0), count);
            // By turns on the second leg and on the first one.
            due("parcel", x.parcel(0, 1, count % 2, 0), count < 16 ? count : FULL);
        }
        x = alike(1, 16, 0, 0, 1);
        due("load(0, 0)", x.load(0, 0), 16);
        due("load(1, 0)", x.load(1, 0), 16);
    }

    @Says("MET: how many other PARCELS use an EDGE of its WAY, too, on whichever LEGS")
    private static void metIs0To15() {
        CubeLegs x = cube(1);
        for (int p = 0; p < 16; p++) {
            x.parcel(0, 1, p % 2, 0);
            due("of(0, 5)", x.of(0, 5), p);
            due("of(p, 5)", x.of(p, 5), p);
        }
        // One that goes the other way, and one that goes nowhere, meet none.
        x = cube(4);
        x.parcel(15, 7, 15, 0);
        x.parcel(7, 15, 7, 0);
        x.parcel(15, 15, 15, 0);
        dueParcel(x, 0, 15, 7, 15, 0, 1, 0);
        dueParcel(x, 1, 7, 15, 7, 0, 1, 0);
        dueParcel(x, 2, 15, 15, 15, 0, 0, 0);
        // Two that share two edges are one meeting.
        x.parcel(15, 3, 15, 0);
        x.parcel(15, 3, 3, 0);
        due("of(3, 5)", x.of(3, 5), 1);
        due("of(0, 5)", x.of(0, 5), 0);
        // The last edge counts as any; and those that went another way before count no more.
        x.sets(2, 1, 7);
        due("of(0, 5)", x.of(0, 5), 1);
        due("of(2, 5)", x.of(2, 5), 1);
        x.sets(2, 1, 15);
        due("of(0, 5)", x.of(0, 5), 0);
        due("of(2, 5)", x.of(2, 5), 0);
    }

    // ---- the terms: runs

    @Says("at TICK 0 all PARCELS are at FROM")
    private static void atTick0AllAreAtFrom() {
        CubeLegs x = full();
        for (int p = 0; p < 16; p++) {
            due("ran(p, 2, 0)", x.ran(p, 2, 0), p);
        }
    }

    @Says("of all PARCELS that want an EDGE next (and are not home) one goes over it, the others wait")
    private static void oneGoesTheOthersWait() {
        for (int rule = 0; rule < 4; rule++) {
            CubeLegs x = alike(1, 16, 0, 1, 0);
            x.rules(1, rule);
            for (int p = 0; p < 16; p++) {
                due("home", x.ran(p, 0, 0), p + 1);
                due("DELAY", x.ran(p, 1, 0), p);
                due("the CORNER a TICK ahead", x.ran(p, 2, p), 0);
                due("the CORNER", x.ran(p, 2, p + 1), 1);
            }
        }
    }

    @Says("want an EDGE next (and are not home): each way one of its own, none waits for what goes the other way or is home")
    private static void othersEdgesDoNotCount() {
        CubeLegs x = cube(1);
        x.parcel(0, 1, 0, 0);
        x.parcel(1, 0, 1, 0);
        x.parcel(0, 0, 0, 99);
        dueHomes(x, 1, 1, 0);
        due("run(1)", x.run(1), 0);
        due("run(4)", x.run(4), 1);
    }

    /** 0 goes first; 1 waits at 0 since tick 0, 2 comes there at tick 1: two alike but for their ranks. */
    private static CubeLegs queue(int rule, int rank1, int rank2) {
        CubeLegs x = cube(2);
        x.parcel(0, 1, 0, 99);
        x.parcel(0, 1, 0, rank1);
        x.parcel(2, 1, 0, rank2);
        x.rules(1, rule);
        return x;
    }

    /** Both want the edge at tick 1. */
    private static CubeLegs pair(int rule, int[] first, int[] second) {
        CubeLegs x = cube(2);
        x.parcel(first[0], first[1], first[2], first[3]);
        x.parcel(second[0], second[1], second[2], second[3]);
        x.rules(1, rule);
        return x;
    }

    @Says("0 FIFO: that which came to the EDGE's CORNER first")
    private static void fifoGoesByWhoCame() {
        dueHomes(queue(0, 0, 99), 1, 2, 3);
        dueHomes(queue(0, 0, 0), 1, 2, 3);
        dueHomes(queue(0, 98, 0), 1, 2, 3);
    }

    @Says("0 FIFO: of like ones that of the greatest RANK, then the least PARCEL")
    private static void fifoOfLikeOnes() {
        int[] low = {0, 1, 0, 98};
        int[] high = {0, 1, 1, 99};
        dueHomes(pair(0, low, high), 2, 1);
        dueHomes(pair(0, high, low), 1, 2);
        dueHomes(pair(0, low, low), 1, 2);
    }

    @Says("1 RANKED: that of the greatest RANK, then the least PARCEL")
    private static void rankedGoesByRank() {
        dueHomes(queue(1, 1, 0), 1, 2, 3);
        dueHomes(queue(1, 0, 0), 1, 2, 3);
        dueHomes(queue(1, 0, 1), 1, 3, 2);
        dueHomes(queue(1, 98, 99), 1, 3, 2);
    }

    @Says("2 FARTHEST: that which has the most EDGES to go, then of the greatest RANK, then the least")
    private static void farthestGoesByEdgesToGo() {
        int[] near = {0, 1, 0, 99};
        int[] far = {0, 3, 1, 0};
        int[] farToo = {0, 3, 1, 1};
        dueHomes(pair(2, near, far), 2, 2);
        dueHomes(pair(2, far, near), 2, 2);
        dueHomes(pair(2, far, farToo), 3, 2);
        dueHomes(pair(2, farToo, far), 2, 3);
        dueHomes(pair(2, far, far), 2, 3);
        // Edges gone count no more: 2 came over one, and has one to go, as 1.
        dueHomes(queue(2, 1, 0), 1, 2, 3);
        dueHomes(queue(2, 0, 0), 1, 2, 3);
        dueHomes(queue(2, 0, 1), 1, 3, 2);
        // The same, but he who comes later is the least parcel.
        CubeLegs x = cube(2);
        x.parcel(2, 1, 0, 5);
        x.parcel(0, 1, 0, 99);
        x.parcel(0, 1, 0, 4);
        x.rules(1, 2);
        dueHomes(x, 2, 1, 3);
        x.sets(0, 3, 4);
        dueHomes(x, 2, 1, 3);
        x.sets(0, 3, 3);
        dueHomes(x, 3, 1, 2);
    }

    @Says("3 SECOND: those on their second LEG ahead of those on their first one, then as RANKED")
    private static void secondGoesByLegs() {
        int[] onFirst = {0, 1, 1, 99};
        int[] onSecond = {0, 1, 0, 0};
        int[] onSecondToo = {0, 1, 0, 1};
        dueHomes(pair(3, onFirst, onSecond), 2, 1);
        dueHomes(pair(3, onSecond, onFirst), 1, 2);
        dueHomes(pair(3, onSecond, onSecondToo), 2, 1);
        dueHomes(pair(3, onSecond, onSecond), 1, 2);
        dueHomes(pair(3, onFirst, onFirst), 1, 2);
        int[] onFirstToo = {0, 1, 1, 98};
        dueHomes(pair(3, onFirstToo, onFirst), 2, 1);
        // 1 is on its first leg still; 2, of no rank, begins its second one at 0.
        CubeLegs x = queue(3, 98, 0);
        dueHomes(x, 1, 2, 3);
        x.sets(1, 2, 1);
        dueHomes(x, 1, 3, 2);
    }

    @Says("The RUN ends when all are home")
    private static void theRunEndsWithTheLast() {
        CubeLegs x = alike(4, 16, 0, 0, 15);
        due("run(0)", x.run(0), 8 + 15);
        due("ran(15, 0, 0)", x.ran(15, 0, 0), 23);
        due("ran(15, 2, 22)", x.ran(15, 2, 22), 8);
        due("ran(15, 2, 23)", x.ran(15, 2, 23), 0);
        due("ran(15, 2, 24)", x.ran(15, 2, 24), 0);
        due("ran(0, 0, 0)", x.ran(0, 0, 0), 8);
    }

    // ---- the terms: means

    @Says("EXPECTED LOAD of an EDGE: the mean of LOADS over all ways to draw all PARCELS' BETWEENS (a fraction)")
    private static void meansByNoneAndAll() {
        int[] below = {0, 2, 4, 8, 16};
        for (int d = 1; d <= 4; d++) {
            CubeLegs x = cube(d);
            due("expected without PARCELS", x.expected(0, d - 1, 0), 1);
            dueFraction(x, 0, 1);
            // From 0 to 0, rising: along the last side from 0 just if all bits but the last are 0.
            x.parcel(0, 0, 0, 0);
            x.expected(0, d - 1, 0);
            dueFraction(x, 1, below[d]);
            x = alike(d, 16, 0, 0, 0);
            x.expected(0, d - 1, 0);
            dueFraction(x, 16 / below[d], 1);
        }
    }

    @Says("With some PARCELS' BETWEENS fixed: the mean over those of the others")
    private static void meansByFixedOnes() {
        // Each fixed one uses the edge 0 along 3, each drawn one by one between of 16.
        CubeLegs x = alike(4, 16, 0, 0, 8);
        int[][] due = {{0, 1, 1}, {1, 31, 16}, {8, 17, 2}, {15, 241, 16}, {16, 16, 1}};
        for (int[] row : due) {
            due("expected", x.expected(0, 3, row[0]), 1);
            dueFraction(x, row[1], row[2]);
        }
        // Fewer parcels than may be fixed.
        x = alike(4, 1, 0, 0, 8);
        x.expected(0, 3, 1);
        dueFraction(x, 1, 1);
        x.expected(0, 3, 2);
        dueFraction(x, 1, 1);
        x.expected(0, 3, 16);
        dueFraction(x, 1, 1);
    }

    @Says("the BETWEEN by which the greatest EXPECTED LOAD of all EDGES is least (PARCELS ahead as chosen, those behind drawn)")
    private static void chosenForTheFirstAndTheLast() {
        CubeLegs x = alike(1, 16, 0, 0, 1);
        due("loads(0)", x.loads(0), 16);
        due("chooses()", x.chooses(), 0);
        for (int p = 0; p < 16; p++) {
            due("BETWEEN", x.of(p, 2), 0);
        }
        x = alike(1, 1, 1, 1, 0);
        due("chooses()", x.chooses(), 0);
        due("BETWEEN", x.of(0, 2), 1);
        // For the first the greatest is 7/4 by 0, 1 and 3, and 5/4 by 2; for the second 1 by 0.
        x = alike(2, 2, 0, 3, 0);
        due("chooses()", x.chooses(), 1);
        due("BETWEEN", x.of(0, 2), 2);
        due("BETWEEN", x.of(1, 2), 0);
        // 0 would be the least for the second alone, but the first, as chosen, goes along 1 from 2, too.
        x = cube(2);
        x.parcel(2, 0, 3, 0);
        x.parcel(2, 1, 3, 0);
        due("chooses()", x.chooses(), 1);
        due("BETWEEN", x.of(0, 2), 0);
        due("BETWEEN", x.of(1, 2), 1);
    }

    @Says("of like ones the one by which the squares of EXPECTED LOADS together are least, then the least")
    private static void chosenOfLikeOnes() {
        // The greatest is 5/4 by 0, 2 and 3; the squares are 76/16 by 0, 36/16 by 2 and 3.
        CubeLegs x = cube(2);
        x.parcel(2, 3, 1, 0);
        x.parcel(1, 1, 3, 0);
        due("chooses()", x.chooses(), 1);
        due("BETWEEN", x.of(0, 2), 2);
        // The greatest is 8/4 by each, the loads together are alike, too; the squares are 112/16 by 1, else 128/16.
        x = cube(2);
        x.parcel(3, 0, 3, 0);
        x.parcel(1, 0, 3, 0);
        x.parcel(0, 0, 3, 0);
        x.chooses();
        due("BETWEEN", x.of(0, 2), 1);
        // The greatest is 6/4 by each; the squares are 96/16 by 2, else 112/16: the edge 0 along 0 counts in them.
        x = cube(2);
        x.parcel(0, 3, 3, 0);
        x.parcel(1, 0, 3, 0);
        x.parcel(0, 0, 3, 0);
        x.chooses();
        due("BETWEEN", x.of(0, 2), 2);
        // All betweens on a shortest way are alike.
        x = alike(1, 1, 0, 1, 1);
        x.chooses();
        due("BETWEEN", x.of(0, 2), 0);
        x = alike(1, 1, 1, 0, 1);
        x.chooses();
        due("BETWEEN", x.of(0, 2), 0);
        x = alike(4, 1, 15, 0, 15);
        due("chooses()", x.chooses(), 1);
        due("BETWEEN", x.of(0, 2), 0);
    }

    // ---- the terms: the text

    @Says("THE TEXT (120 bytes at most)")
    private static void theTextHas120Bytes() {
        CubeLegs x = new CubeLegs();
        types(x, " ".repeat(119));
        due("type(59), the last", x.type(59), 120);
        due("type(59), one more", x.type(59), FULL);
        dueTold(x, 0, 0, 1, 120);
        due("reads()", x.reads(), -10 - 119);
        refused("type(59)", CubeLegsBoundaries::full, y -> y.type(59), FULL);
        // Every one of the 120 is read.
        dueReads(new CubeLegs(), "0>7/3*5;".repeat(15), 15);
        dueReads(new CubeLegs(), " ".repeat(116) + "0>1;", 1);
        dueReads(new CubeLegs(), "0>1;" + " ".repeat(116), 1);
        dueFault(CubeLegs::new, " ".repeat(117) + "0>1", 120);
        dueFault(CubeLegs::new, " ".repeat(120), 120);
        dueFault(CubeLegs::new, "0>1;" + " ".repeat(115) + "x", 119);
    }

    @Says("FROM > TO, perhaps / BETWEEN (else as FROM), perhaps * RANK (else 0)")
    private static void partsThatMayBeLeftOut() {
        CubeLegs x = new CubeLegs();
        dueReads(x, "5>6;5>6/7;5>6*8;5>6/7*8;", 4);
        dueParcel(x, 0, 5, 6, 5, 0);
        dueParcel(x, 1, 5, 6, 7, 0);
        dueParcel(x, 2, 5, 6, 5, 8);
        dueParcel(x, 3, 5, 6, 7, 8);
        // Each once, and in this order.
        dueFault(CubeLegs::new, "5>6*8/7;", 5);
        dueFault(CubeLegs::new, "5>6/7/7;", 5);
        dueFault(CubeLegs::new, "5>6*8*8;", 5);
        dueFault(CubeLegs::new, "5>6>7;", 3);
    }

    @Says("numbers of 1 or 2 figures")
    private static void numbersHave1Or2Figures() {
        CubeLegs x = new CubeLegs();
        dueReads(x, "0>7/0*9;00>07/00*09;", 2);
        dueParcel(x, 0, 0, 7, 0, 9);
        dueParcel(x, 1, 0, 7, 0, 9);
        String[] three = {"000>0;", "0>000;", "0>0/000;", "0>0*000;", "0>0*099;", "0>0*100;", "0>0*0000000000000000;"};
        int[] place = {0, 2, 4, 4, 4, 4, 4};
        for (int i = 0; i < three.length; i++) {
            dueFault(CubeLegs::new, three[i], place[i]);
        }
        String[] none = {">0;", "0>;", "0>0/;", "0>0*;"};
        int[] gap = {0, 2, 4, 4};
        for (int i = 0; i < none.length; i++) {
            dueFault(CubeLegs::new, none[i], gap[i]);
        }
    }

    @Says("Blanks (32) may stand anywhere but in numbers")
    private static void blanksAnywhereButInNumbers() {
        String text = "10>11/12*34;1>2;";
        for (int at = 0; at <= text.length(); at++) {
            boolean inNumber = at == 1 || at == 4 || at == 7 || at == 10;
            for (String blanks : new String[] {" ", "   "}) {
                String spread = text.substring(0, at) + blanks + text.substring(at);
                if (inNumber) {
                    dueFault(() -> cube(4), spread, at + blanks.length());
                } else {
                    CubeLegs x = cube(4);
                    dueReads(x, spread, 2);
                    dueParcel(x, 0, 10, 11, 12, 34);
                    dueParcel(x, 1, 1, 2, 1, 0);
                }
            }
        }
        for (int c : new int[] {0, 9, 10, 13, 31, 33, 127}) {
            dueFault(CubeLegs::new, (char) c + "0>1;", 0);
            dueFault(CubeLegs::new, "0>1;" + (char) c, 4);
        }
    }

    /** The fault's place when a byte comes behind a text that had none, or the length: it can stand there. */
    private static int placeBehind(String text, String signs, char c) {
        boolean numberDue = signs.isEmpty();
        boolean numberGoesOn = text.endsWith("0");
        if (c < '0' || c > '9') {
            return c == ' ' || signs.indexOf(c) >= 0 ? text.length() + 1 : text.length();
        }
        if (!numberDue && !numberGoesOn) {
            return text.length();
        }
        // All numbers are 0 so far, so that the figure alone tells whether it is a corner of three sides.
        boolean asTold = text.indexOf('*') >= 0 || c < '8';
        return asTold ? text.length() + 1 : numberGoesOn ? text.length() - 1 : text.length();
    }

    @Says("FAULT: the place of the first byte that can not stand there")
    private static void everyByteAtEveryPlace() {
        String[] ahead = {"", "0>0;", "0", "0>", "0>0", "0>0/", "0>0/0", "0>0*", "0>0*0", "0 ", "0>0 ", "0>0/0 ", "0>0*0 "};
        String[] signs = {"", "", ">", "", "/*;", "", "*;", "", ";", ">", "/*;", "*;", ";"};
        for (int i = 0; i < ahead.length; i++) {
            for (char c = 0; c < 128; c++) {
                boolean ended = c == ';' && signs[i].indexOf(c) >= 0 || c == ' ' && ahead[i].endsWith(";");
                CubeLegs x = new CubeLegs();
                dueReads(x, ahead[i] + c, ended ? 1 : -10 - placeBehind(ahead[i], signs[i], c));
                dueTold(x, 0, 0, 0, ahead[i].length() + 1, 3, ended ? 1 : 0, 0, 0, ended ? 1 : 0);
            }
        }
    }

    @Says("of a number not as told .. its first byte")
    private static void numbersNotAsTold() {
        for (int d = 1; d <= 4; d++) {
            int sides = d;
            int last = (1 << d) - 1;
            int more = 1 << d;
            CubeLegs x = cube(d);
            dueReads(x, last + ">" + last + "/" + last + "*99;", 1);
            dueParcel(x, 0, last, last, last, 99);
            dueFault(() -> cube(sides), more + ">0/0*0;", 0);
            dueFault(() -> cube(sides), " 0> " + more + "/0*0;", 4);
            dueFault(() -> cube(sides), "0>0/" + more + "*0;", 4);
            dueFault(() -> cube(sides), "0>0;99>0;", 4);
            // The text's end behind it does not matter.
            dueFault(() -> cube(sides), "0>" + more, 2);
        }
        // Of two faults the first counts.
        dueFault(CubeLegs::new, "8>8/8*100;", 0);
        dueFault(CubeLegs::new, "0>8/8*100", 2);
        dueFault(CubeLegs::new, "0>0/8*100", 4);
        dueFault(CubeLegs::new, "0>0/0*100;9", 6);
    }

    @Says("a PARCEL more than 16 with those there: its first byte")
    private static void parcelsMoreThan16() {
        String one = "0>1;";
        dueReads(new CubeLegs(), one.repeat(16), 16);
        dueFault(CubeLegs::new, one.repeat(17), 64);
        for (int there = 0; there <= 16; there++) {
            int count = there;
            Supplier<CubeLegs> made = () -> alike(3, count, 7, 0, 7);
            if (there < 16) {
                dueReads(made.get(), one.repeat(16 - there), 16 - there);
            }
            dueFault(made, one.repeat(16 - there) + "  " + one, 4 * (16 - there) + 2);
        }
        Supplier<CubeLegs> fifteen = () -> alike(3, 15, 7, 0, 7);
        dueReads(fifteen.get(), "0>1;   ", 1);
        // Its first byte comes ahead of what is wrong with it, but behind what was wrong earlier.
        dueFault(fifteen, "0>1; 9>9", 5);
        dueFault(fifteen, "0>1;;", 4);
        dueFault(fifteen, "0>9;0>1;", 2);
        // Without one there is just the text's end.
        dueFault(() -> alike(3, 16, 7, 0, 7), "", 0);
        dueFault(() -> alike(3, 16, 7, 0, 7), "  ", 2);
        // Room for more, though 16 were there.
        CubeLegs x = alike(3, 16, 7, 0, 7);
        x.empties();
        dueReads(x, one.repeat(16), 16);
    }

    @Says("the TEXT's length, if it ends too early (an empty one, too)")
    private static void textsThatEndTooEarly() {
        String text = " 10 > 11 / 12 * 34 ;";
        for (int length = 0; length < text.length(); length++) {
            dueFault(() -> cube(4), text.substring(0, length), length);
        }
        for (int length = 2; length < text.length(); length++) {
            dueFault(() -> cube(4), "0>0;" + text.substring(0, length), 4 + length);
        }
        dueReads(cube(4), text, 1);
        due("reads() of a new object", new CubeLegs().reads(), -10);
    }

    @Says("If there is one, nothing is done. By a FAULT nothing counts.")
    private static void byAFaultNothingIsDone() {
        dueFault(() -> some(3), "0>1;0>1;0>8;", 10);
        dueFault(() -> some(3), "0>1;0>1;0", 9);
        dueFault(() -> some(3), "", 0);
        dueFault(CubeLegsBoundaries::full, "0>1;", 0);
    }

    // ---- the terms: states and refusals

    @Says("STATES: each call told S leaves one to go back to")
    private static void callsToldS() {
        List<ToIntFunction<CubeLegs>> calls = List.of(x -> x.sides(4), x -> x.sides(3), x -> x.parcel(1, 2, 3, 4),
            x -> x.sets(2, 0, 7), x -> x.sets(2, 0, x.of(2, 0)), x -> x.rules(0, 1), x -> x.rules(1, 3),
            x -> x.rules(1, 0), CubeLegs::empties, x -> x.fills(0, 0), CubeLegs::chooses, CubeLegs::reads);
        for (ToIntFunction<CubeLegs> call : calls) {
            CubeLegs x = some(3);
            CubeLegs twin = some(3);
            call.applyAsInt(x);
            due("told(8)", x.told(8), 5);
            due("back()", x.back(), 4);
            dueSame("back", x, twin, -1);
        }
        CubeLegs x = new CubeLegs();
        due("empties() of none", x.empties(), 0);
        due("told(8)", x.told(8), 1);
    }

    @Says("STATES: each call told S (and no other) leaves one to go back to")
    private static void callsNotToldS() {
        CubeLegs x = some(3);
        List<ToIntFunction<CubeLegs>> calls = List.of(y -> y.of(0, 5), y -> y.step(0, 0), y -> y.step(0, 9),
            y -> y.load(0, 0), y -> y.loads(0), y -> y.expected(0, 0, 0), y -> y.part(0), CubeLegs::greatest,
            y -> y.run(0), y -> y.ran(0, 2, 1), y -> y.best(0), CubeLegs::straight, y -> y.type(32),
            CubeLegs::clear, CubeLegs::reads, y -> y.told(8), y -> (int) y.digest());
        for (ToIntFunction<CubeLegs> call : calls) {
            call.applyAsInt(x);
            due("told(8)", x.told(8), 4);
        }
        due("told(6)", x.told(6), 0);
        due("told(7)", x.told(7), 0);
    }

    @Says("6 at most, older ones lost")
    private static void statesAre6AtMost() {
        for (int calls = 0; calls <= 20; calls++) {
            CubeLegs x = new CubeLegs();
            for (int i = 0; i < calls; i++) {
                x.rules(1, (i + 1) % 4);
            }
            int kept = Math.min(calls, 6);
            due("told(8)", x.told(8), kept);
            for (int i = 1; i <= kept; i++) {
                due("back()", x.back(), kept - i);
                due("THE RULE", x.told(7), (calls - i) % 4);
            }
            due("back()", x.back(), NO);
            due("THE RULE", x.told(7), (calls - kept) % 4);
        }
    }

    @Says("STATES (6 at most): those gone back to make room")
    private static void statesGoneBackMakeRoom() {
        CubeLegs x = new CubeLegs();
        for (int rank = 0; rank < 8; rank++) {
            x.parcel(0, 0, 0, rank);
        }
        due("back()", x.back(), 5);
        due("back()", x.back(), 4);
        x.parcel(0, 0, 0, 50);
        due("told(8)", x.told(8), 5);
        x.parcel(0, 0, 0, 51);
        x.parcel(0, 0, 0, 52);
        due("told(8)", x.told(8), 6);
        int[] ranks = {51, 50, 5, 4, 3, 2};
        for (int i = 0; i < 6; i++) {
            due("back()", x.back(), 5 - i);
            due("told(5)", x.told(5), 8 - i);
            due("RANK of the last", x.of(7 - i, 3), ranks[i]);
        }
        due("back()", x.back(), NO);
        due("told(5)", x.told(5), 3);
    }

    @Says("Refused .. the first of: BAD, NO, FULL")
    private static void badComesAheadOfFull() {
        refused("parcel 16", CubeLegsBoundaries::full, x -> x.parcel(0, 0, 0, 0), FULL);
        refused("bad FROM of parcel 16", CubeLegsBoundaries::full, x -> x.parcel(16, 0, 0, 0), BAD);
        refused("bad TO of parcel 16", CubeLegsBoundaries::full, x -> x.parcel(0, -1, 0, 0), BAD);
        refused("bad BETWEEN of parcel 16", CubeLegsBoundaries::full, x -> x.parcel(0, 0, 16, 0), BAD);
        refused("bad RANK of parcel 16", CubeLegsBoundaries::full, x -> x.parcel(0, 0, 0, 100), BAD);
        refused("byte 121", CubeLegsBoundaries::full, x -> x.type(127), FULL);
        refused("bad byte 121", CubeLegsBoundaries::full, x -> x.type(128), BAD);
        refused("bad byte 121", CubeLegsBoundaries::full, x -> x.type(-1), BAD);
        CubeLegs x = full();
        x.parcel(16, 0, 0, 100);
        due("told(0): several numbers not as told are one refusal", x.told(0), 1);
        due("told(2)", x.told(2), 0);
    }

    // ---- promises 1 to 9: parcels

    @Says("Promise 1: As told; no PARCELS.")
    private static void aNewObject() {
        CubeLegs x = new CubeLegs();
        dueTold(x, 0, 0, 0, 0, 3, 0, 0, 0, 0);
        dueFraction(x, 0, 1);
        due("of(0, 0)", x.of(0, 0), BAD);
        due("back()", x.back(), NO);
        due("clear()", x.clear(), 0);
        due("empties()", x.empties(), 0);
        due("NONE", CubeLegs.NONE, NONE);
        due("BAD", CubeLegs.BAD, BAD);
        due("NO", CubeLegs.NO, NO);
        due("FULL", CubeLegs.FULL, FULL);
        // What another object holds is its own.
        full();
        dueTold(new CubeLegs(), 0, 0, 0, 0, 3, 0, 0, 0, 0);
    }

    @Says("Promise 2: D becomes v, all PARCELS go: what it was. S. BAD.")
    private static void sidesAndParcels() {
        CubeLegs x = full();
        due("sides(4)", x.sides(4), 4);
        dueTold(x, 0, 0, 0, 120, 4, 0, 1, 2, 6);
        due("of(0, 0)", x.of(0, 0), BAD);
        due("sides(1)", x.sides(1), 4);
        due("sides(4)", x.sides(4), 1);
        x.back();
        x.back();
        x.back();
        dueTold(x, 1, 0, 0, 120, 4, 16, 1, 2, 3);
        // The corners and sides are those of the new D at once.
        x.sides(1);
        due("parcel(2, 0, 0, 0)", x.parcel(2, 0, 0, 0), BAD);
        due("load(0, 1)", x.load(0, 1), BAD);
        due("parcel(1, 1, 1, 0)", x.parcel(1, 1, 1, 0), 0);
        span("sides", CubeLegsBoundaries::full, 1, 4, CubeLegs::sides);
    }

    @Says("Promise 3: A PARCEL: its number. S. BAD; FULL.")
    private static void parcelNumbers() {
        CubeLegs x = alike(1, 15, 0, 1, 0);
        due("parcel, the last", x.parcel(1, 1, 1, 99), 15);
        due("parcel, one more", x.parcel(1, 1, 1, 99), FULL);
        dueTold(x, 0, 0, 1, 0, 1, 16);
        x.back();
        due("parcel, the last again", x.parcel(0, 0, 0, 1), 15);
        dueParcel(x, 15, 0, 0, 0, 1, 0, 0);
        x.empties();
        due("parcel, the first", x.parcel(1, 0, 1, 0), 0);
        dueParcel(x, 0, 1, 0, 1, 0, 1, 0);
    }

    @Says("Promise 4: FROM (what 0), TO (1), BETWEEN (2), RANK (3) of a PARCEL become v: what it was. S. BAD.")
    private static void setsWithinBounds() {
        for (int d = 1; d <= 4; d++) {
            int sides = d;
            int last = (1 << d) - 1;
            for (int what = 0; what < 3; what++) {
                int which = what;
                span("sets v of what " + what, () -> some(sides), 0, last, (x, v) -> x.sets(2, which, v));
            }
            span("sets v of what 3", () -> some(sides), 0, 99, (x, v) -> x.sets(0, 3, v));
        }
        span("sets what", () -> some(3), 0, 3, (x, v) -> x.sets(0, v, 0));
        span("sets p", () -> some(3), 0, 2, (x, v) -> x.sets(v, 0, 0));
        span("sets p", CubeLegsBoundaries::full, 0, 15, (x, v) -> x.sets(v, 3, 0));
        refused("sets without PARCELS", () -> cube(2), x -> x.sets(0, 0, 0), BAD);
        CubeLegs x = full();
        for (int what = 0; what < 4; what++) {
            int was = x.of(15, what);
            int most = what == 3 ? 99 : 15;
            due("sets to the most", x.sets(15, what, most), was);
            due("sets to the least", x.sets(15, what, 0), most);
            due("of", x.of(15, what), 0);
        }
    }

    @Says("Promise 5: THE ORDER of SIDES (what 0: 0 rising, 1 falling), THE RULE (1) become v: what it was. S. BAD.")
    private static void rulesWithinBounds() {
        span("THE ORDER", () -> some(3), 0, 1, (x, v) -> x.rules(0, v));
        span("THE RULE", () -> some(3), 0, 3, (x, v) -> x.rules(1, v));
        span("rules what", () -> some(3), 0, 1, (x, v) -> x.rules(v, 0));
        CubeLegs x = new CubeLegs();
        due("rules(0, 1)", x.rules(0, 1), 0);
        due("rules(0, 1)", x.rules(0, 1), 1);
        due("rules(0, 0)", x.rules(0, 0), 1);
        for (int rule = 0; rule < 4; rule++) {
            due("rules(1, 3)", x.rules(1, 3), rule == 0 ? 0 : rule - 1);
            due("rules", x.rules(1, rule), 3);
        }
        dueTold(x, 0, 0, 0, 0, 3, 0, 0, 3, 6);
    }

    @Says("Promise 6: All PARCELS go: how many there were. S.")
    private static void emptiesOfNoneAndFull() {
        CubeLegs x = full();
        due("empties()", x.empties(), 16);
        dueTold(x, 0, 0, 0, 120, 4, 0, 1, 2, 6);
        due("empties()", x.empties(), 0);
        due("of(0, 0)", x.of(0, 0), BAD);
        due("back()", x.back(), 5);
        due("told(5)", x.told(5), 0);
        due("back()", x.back(), 4);
        due("told(5)", x.told(5), 16);
        due("of(15, 3)", x.of(15, 3), 42);
    }

    @Says("Promise 7: One PARCEL from each CORNER takes the place of all .. how many PARCELS. S. BAD.")
    private static void fillsTakesThePlaceOfAll() {
        int[] corners = {0, 2, 4, 8, 16};
        for (int d = 1; d <= 4; d++) {
            CubeLegs x = alike(d, 16, 1, 1, 1);
            due("fills", x.fills(0, 0), corners[d]);
            due("told(5)", x.told(5), corners[d]);
            for (int p = 0; p < corners[d]; p++) {
                due("FROM", x.of(p, 0), p);
            }
            due("of one more", x.of(corners[d], 0), BAD);
            due("told(2)", x.told(2), 0);
            x.back();
            due("told(5)", x.told(5), 16);
        }
        span("fills how", () -> some(3), 0, 3, (x, v) -> x.fills(v, 0));
        span("fills seed", () -> some(3), 0, 999999, (x, v) -> x.fills(3, v));
        span("fills seed", CubeLegsBoundaries::full, 0, 999999, (x, v) -> x.fills(0, v));
    }

    @Says("Promise 7: to: 0 the CORNER with all bits the other way round")
    private static void fillsAllBits() {
        for (int d = 1; d <= 4; d++) {
            CubeLegs x = cube(d);
            x.fills(0, 5);
            due("TO of the first", x.of(0, 1), (1 << d) - 1);
            due("TO of the last", x.of((1 << d) - 1, 1), 0);
        }
    }

    @Says("Promise 7: 1 its bits the other way round in order (SIDE 0 and the last one change places, ..)")
    private static void fillsBitsInOrder() {
        int[][] to = {{}, {0, 1}, {0, 2, 1, 3}, {0, 4, 2, 6, 1, 5, 3, 7},
            {0, 8, 4, 12, 2, 10, 6, 14, 1, 9, 5, 13, 3, 11, 7, 15}};
        for (int d = 1; d <= 4; d++) {
            CubeLegs x = cube(d);
            x.fills(1, 5);
            for (int p = 0; p < to[d].length; p++) {
                due("TO", x.of(p, 1), to[d][p]);
            }
        }
    }

    @Says("Promise 7: 2 1 more (0 behind the last)")
    private static void fillsOneMore() {
        for (int d = 1; d <= 4; d++) {
            CubeLegs x = cube(d);
            x.fills(2, 5);
            int last = (1 << d) - 1;
            for (int p = 0; p < last; p++) {
                due("TO", x.of(p, 1), p + 1);
            }
            due("TO behind the last", x.of(last, 1), 0);
        }
    }

    @Says("Promise 7: X becomes X times 1103515245 and 12345, by 2147483648 what is left over")
    private static void fillsDrawnFromTheEnds() {
        BigInteger times = BigInteger.valueOf(1103515245);
        BigInteger modulus = BigInteger.valueOf(2147483648L);
        for (int seed : new int[] {0, 1, 999998, 999999}) {
            for (int d = 1; d <= 4; d++) {
                for (int how = 0; how < 4; how++) {
                    CubeLegs x = cube(d);
                    x.fills(how, seed);
                    BigInteger drawn = BigInteger.valueOf(seed);
                    for (int p = 0; p < 1 << d; p++) {
                        drawn = drawn.multiply(times).add(BigInteger.valueOf(12345)).mod(modulus);
                        int v = drawn.intValueExact();
                        due("BETWEEN", x.of(p, 2), v / 65536 % (1 << d));
                        due("RANK", x.of(p, 3), v / 1024 % 100);
                        if (how == 3) {
                            due("TO", x.of(p, 1), v / 32768 % (1 << d));
                        }
                    }
                }
            }
        }
    }

    @Says("Promise 8: Of a PARCEL: FROM (0), .. MET (5). BAD.")
    private static void ofWithinBounds() {
        span("of what", () -> some(3), 0, 5, (x, v) -> x.of(0, v));
        span("of p", () -> some(3), 0, 2, (x, v) -> x.of(v, 5));
        span("of p", CubeLegsBoundaries::full, 0, 15, (x, v) -> x.of(v, 5));
        refused("of without PARCELS", () -> cube(4), x -> x.of(0, 4), BAD);
    }

    @Says("Promise 9: The CORNER at which PARCEL p is behind k EDGES of its WAY; -5: it has not so many. BAD: k below 0, too.")
    private static void stepWithinBounds() {
        CubeLegs x = alike(4, 16, 0, 0, 15);
        for (int p = 0; p < 16; p += 15) {
            due("step(p, 0)", x.step(p, 0), 0);
            due("step(p, 7)", x.step(p, 7), 8);
            due("step(p, 8)", x.step(p, 8), 0);
            due("step(p, 9)", x.step(p, 9), NOT_SO_MANY);
            due("step(p, max)", x.step(p, Integer.MAX_VALUE), NOT_SO_MANY);
        }
        dueTold(x, 0, 0, 0);
        CubeLegs still = alike(1, 1, 1, 1, 1);
        due("step(0, 0)", still.step(0, 0), 1);
        due("step(0, 1)", still.step(0, 1), NOT_SO_MANY);
        refused("step(0, -1)", () -> some(3), y -> y.step(0, -1), BAD);
        refused("step(0, min)", () -> some(3), y -> y.step(0, Integer.MIN_VALUE), BAD);
        span("step p", () -> some(3), 0, 2, (y, v) -> y.step(v, 0));
        span("step p", CubeLegsBoundaries::full, 0, 15, (y, v) -> y.step(v, 99));
        refused("step without PARCELS", () -> cube(4), y -> y.step(0, 0), BAD);
    }

    // ---- promises 10 to 15: loads

    @Says("Promise 10: LOAD of the EDGE from a CORNER along a SIDE. BAD.")
    private static void loadWithinBounds() {
        for (int d = 1; d <= 4; d++) {
            int sides = d;
            int last = (1 << d) - 1;
            span("load corner", () -> some(sides), 0, last, (x, v) -> x.load(v, 0));
            span("load side", () -> some(sides), 0, d - 1, (x, v) -> x.load(0, v));
            CubeLegs x = alike(d, 3, last, last >> 1, last);
            due("load of the last EDGE", x.load(last, d - 1), 3);
            due("load of the last but one", x.load(last - 1, d - 1), 0);
        }
        due("load without PARCELS", new CubeLegs().load(0, 0), 0);
    }

    @Says("Promise 11: CONGESTION (0), how many EDGES have it (1), EDGES that are used (2) .. BAD.")
    private static void loadsOfNoneAndAll() {
        span("loads", () -> some(3), 0, 3, CubeLegs::loads);
        int[] edges = {0, 2, 8, 24, 64};
        for (int d = 1; d <= 4; d++) {
            CubeLegs x = cube(d);
            due("loads(0)", x.loads(0), 0);
            due("loads(1)", x.loads(1), edges[d]);
            due("loads(2)", x.loads(2), 0);
            x.parcel(0, 1, 0, 0);
            due("loads(0)", x.loads(0), 1);
            due("loads(1)", x.loads(1), 1);
            due("loads(2)", x.loads(2), 1);
        }
        // Both edges of one side used alike, then one more than the other.
        CubeLegs x = alike(1, 15, 0, 0, 1);
        due("loads(0)", x.loads(0), 15);
        due("loads(1)", x.loads(1), 2);
        due("loads(2)", x.loads(2), 2);
        x.parcel(1, 0, 1, 0);
        due("loads(0)", x.loads(0), 16);
        due("loads(1)", x.loads(1), 1);
        due("loads(2)", x.loads(2), 2);
        due("loads(3)", x.loads(3), 10);
    }

    @Says("Promise 11: the first such EDGE of CONGESTION (3: 10 times its CORNER, and its SIDE; by CORNERS, then SIDES; NONE: no PARCELS use any)")
    private static void theFirstEdgeOfCongestion() {
        CubeLegs x = cube(4);
        due("loads(3)", x.loads(3), NONE);
        x.parcel(15, 15, 15, 0);
        due("loads(3), none moves", x.loads(3), NONE);
        x.parcel(15, 7, 15, 0);
        due("loads(3), the last EDGE", x.loads(3), 153);
        x.parcel(15, 11, 15, 0);
        due("loads(3), a SIDE less", x.loads(3), 152);
        x.parcel(14, 6, 14, 0);
        due("loads(3), a CORNER less", x.loads(3), 143);
        x.parcel(0, 1, 0, 0);
        due("loads(3), the first EDGE", x.loads(3), 0);
        x.parcel(15, 7, 15, 0);
        due("loads(3), the last again", x.loads(3), 153);
        dueTold(x, 0, 0, 0);
    }

    @Says("Promise 12: BETWEENS of PARCELS below p (0 .. 16) fixed as they are, is THE FRACTION: 1. BAD.")
    private static void expectedWithinBounds() {
        for (int d = 1; d <= 4; d++) {
            int sides = d;
            span("expected corner", () -> some(sides), 0, (1 << d) - 1, (x, v) -> x.expected(v, 0, 0));
            span("expected side", () -> some(sides), 0, d - 1, (x, v) -> x.expected(0, v, 0));
        }
        span("expected p", () -> some(3), 0, 16, (x, v) -> x.expected(0, 0, v));
        span("expected p", CubeLegsBoundaries::full, 0, 16, (x, v) -> x.expected(15, 3, v));
        span("expected p without PARCELS", () -> cube(4), 0, 16, (x, v) -> x.expected(15, 3, v));
        CubeLegs x = full();
        for (int corner = 0; corner < 16; corner++) {
            for (int side = 0; side < 4; side++) {
                due("expected, all fixed", x.expected(corner, side, 16), 1);
                dueFraction(x, x.load(corner, side), 1);
            }
        }
    }

    @Says("Promise 13: THE FRACTION: above (0), below (1); 0 by 1 at first; lowest terms. BAD.")
    private static void partsOfTheFraction() {
        span("part", () -> some(3), 0, 1, CubeLegs::part);
        span("part", CubeLegs::new, 0, 1, CubeLegs::part);
        dueFraction(new CubeLegs(), 0, 1);
        // k parcels that use the edge by one between of 16: k by 16, in lowest terms.
        int[][] lowest = {{0, 1}, {1, 16}, {1, 8}, {3, 16}, {1, 4}, {5, 16}, {3, 8}, {7, 16}, {1, 2}, {9, 16}, {5, 8},
            {11, 16}, {3, 4}, {13, 16}, {7, 8}, {15, 16}, {1, 1}};
        CubeLegs x = cube(4);
        for (int count = 0; count <= 16; count++) {
            x.expected(0, 3, 0);
            dueFraction(x, lowest[count][0], lowest[count][1]);
            x.parcel(0, 0, 0, 0);
        }
        // It stays until the next one, whatever goes or comes back.
        x.expected(0, 3, 1);
        dueFraction(x, 15, 16);
        x.sides(1);
        x.back();
        x.empties();
        x.chooses();
        x.clear();
        dueFraction(x, 15, 16);
        x.expected(0, 3, 0);
        dueFraction(x, 0, 1);
    }

    @Says("Promise 14: The greatest EXPECTED LOAD (none fixed) is THE FRACTION: the first EDGE that has it. NO: no PARCELS.")
    private static void greatestOfNoneAndAll() {
        refused("greatest()", () -> cube(4), CubeLegs::greatest, NO);
        refused("greatest()", () -> {
            CubeLegs x = full();
            x.empties();
            return x;
        }, CubeLegs::greatest, NO);
        // A single parcel that is home: from 15 to 15, rising, 7 along 3 and 15 along 0 are used by half of all.
        CubeLegs x = alike(4, 1, 15, 15, 15);
        due("greatest()", x.greatest(), 73);
        dueFraction(x, 1, 2);
        x.rules(0, 1);
        due("greatest(), falling", x.greatest(), 140);
        dueFraction(x, 1, 2);
        x = alike(4, 16, 0, 0, 0);
        due("greatest()", x.greatest(), 0);
        dueFraction(x, 8, 1);
        x.rules(0, 1);
        due("greatest(), falling", x.greatest(), 3);
        dueFraction(x, 8, 1);
        x = alike(1, 1, 1, 0, 1);
        due("greatest()", x.greatest(), 10);
        dueFraction(x, 1, 1);
    }

    @Says("Promise 15: BETWEENS become the CHOSEN ones: CONGESTION then. S. NO: no PARCELS.")
    private static void choosesOfNoneAndAll() {
        refused("chooses()", () -> cube(4), CubeLegs::chooses, NO);
        refused("chooses()", () -> {
            CubeLegs x = full();
            x.empties();
            return x;
        }, CubeLegs::chooses, NO);
        CubeLegs x = full();
        int[] was = new int[16];
        for (int p = 0; p < 16; p++) {
            was[p] = x.of(p, 2);
        }
        due("chooses()", x.chooses(), x.loads(0));
        due("told(8)", x.told(8), 6);
        x.chooses();
        due("chooses() again", x.chooses(), x.loads(0));
        due("back()", x.back(), 5);
        due("back()", x.back(), 4);
        due("back()", x.back(), 3);
        for (int p = 0; p < 16; p++) {
            due("BETWEEN as it was", x.of(p, 2), was[p]);
        }
        due("chooses() of one", alike(4, 1, 0, 15, 7).chooses(), 1);
        due("chooses() of one that is home", alike(4, 1, 15, 15, 0).chooses(), 0);
    }

    // ---- promises 16 to 19: runs

    @Says("Promise 16: A RUN: TICKS (what 0), all DELAYS together (1), the greatest DELAY (2) .. (4). BAD.")
    private static void runOfNoneAndAll() {
        span("run", () -> some(3), 0, 4, CubeLegs::run);
        span("run", () -> cube(4), 0, 4, CubeLegs::run);
        int[][] due = {{0, 0, 0, 0, -1, 0}, {1, 1, 0, 0, 0, 1}, {2, 2, 1, 1, 1, 2}, {15, 15, 105, 14, 14, 15},
            {16, 16, 120, 15, 15, 16}};
        for (int[] row : due) {
            dueRun(alike(1, row[0], 0, 1, 0), Arrays.copyOfRange(row, 1, 6));
        }
    }

    @Says("Promise 16: A RUN (anew by each call, of the PARCELS there are)")
    private static void runBehindAGreaterRun() {
        CubeLegs x = alike(1, 16, 0, 1, 0);
        for (int p = 0; p < 16; p++) {
            x.sets(p, 3, p);
        }
        // The first parcel has the least rank now: it waits for all others.
        int[] all = {16, 120, 15, 0, 16};
        int[] two = {2, 1, 1, 0, 2};
        int[] still = {0, 0, 0, 0, 0};
        int[] none = {0, 0, 0, NONE, 0};
        dueRun(x, all);
        x.empties();
        dueRun(x, none);
        x.parcel(1, 1, 1, 0);
        dueRun(x, still);
        due("ran(0, 0, 0)", x.ran(0, 0, 0), 0);
        due("ran(0, 1, 0)", x.ran(0, 1, 0), 0);
        x.back();
        x.back();
        dueRun(x, all);
        x.empties();
        x.parcel(0, 1, 0, 0);
        x.parcel(0, 1, 0, 1);
        dueRun(x, two);
    }

    private static void dueRun(CubeLegs x, int... want) {
        for (int what = 0; what < want.length; what++) {
            due("run(" + what + ")", x.run(what), want[what]);
        }
    }

    @Says("Promise 16: the least PARCEL that has it (3; NONE: no PARCELS)")
    private static void theLeastOfTheGreatestDelay() {
        CubeLegs x = new CubeLegs();
        due("run(3)", x.run(3), NONE);
        x.parcel(7, 7, 7, 0);
        due("run(3)", x.run(3), 0);
        due("run(0)", x.run(0), 0);
        due("run(4)", x.run(4), 0);
        x.parcel(0, 1, 0, 9);
        due("run(3)", x.run(3), 0);
        // 3 waits for 1, 4 for 2: both a tick.
        x.parcel(1, 0, 1, 9);
        x.parcel(0, 1, 0, 8);
        x.parcel(1, 0, 1, 8);
        due("run(2)", x.run(2), 1);
        due("run(3)", x.run(3), 3);
        x.parcel(1, 0, 1, 7);
        due("run(3)", x.run(3), 5);
        x.empties();
        due("run(3)", x.run(3), NONE);
    }

    @Says("Promise 16: the most PARCELS that wanted one EDGE at a TICK (4)")
    private static void theMostAtOneEdge() {
        // Two at tick 1; at tick 2 those that wait and those that come are three.
        CubeLegs x = cube(2);
        x.parcel(0, 1, 0, 9);
        x.parcel(0, 1, 0, 8);
        due("run(4)", x.run(4), 2);
        x.parcel(2, 1, 0, 7);
        due("run(4)", x.run(4), 2);
        x.parcel(0, 1, 0, 6);
        due("run(4)", x.run(4), 3);
        x.parcel(2, 1, 0, 5);
        due("run(4)", x.run(4), 3);
        x = cube(2);
        x.parcel(0, 1, 0, 0);
        x.parcel(0, 1, 0, 0);
        x.parcel(0, 1, 0, 0);
        x.parcel(2, 1, 0, 0);
        x.parcel(0, 2, 0, 0);
        due("run(4)", x.run(4), 3);
    }

    @Says("Promise 17: the TICK at which a PARCEL is home (0), its DELAY (1). BAD.")
    private static void ranWithinBounds() {
        span("ran what", () -> some(3), 0, 2, (x, v) -> x.ran(0, v, 0));
        for (int what = 0; what < 3; what++) {
            int which = what;
            span("ran p", () -> some(3), 0, 2, (x, v) -> x.ran(v, which, 0));
            span("ran p", CubeLegsBoundaries::full, 0, 15, (x, v) -> x.ran(v, which, 400));
            refused("ran without PARCELS", () -> cube(4), x -> x.ran(0, which, 0), BAD);
        }
        CubeLegs x = alike(4, 16, 0, 0, 0);
        for (int p = 0; p < 16; p += 15) {
            due("home at once", x.ran(p, 0, 0), 0);
            due("no DELAY", x.ran(p, 1, 0), 0);
        }
    }

    @Says("Promise 17: the CORNER at which it is at the end of TICK k (2: k 0 .. 400; other whats: k counts not)")
    private static void ranAtTheEndOfATick() {
        span("ran k", () -> some(3), 0, 400, (x, v) -> x.ran(0, 2, v));
        span("ran k", CubeLegsBoundaries::full, 0, 400, (x, v) -> x.ran(15, 2, v));
        CubeLegs x = alike(4, 1, 0, 0, 15);
        int[] corners = {0, 1, 3, 7, 15, 14, 12, 8, 0, 0};
        for (int k = 0; k < corners.length; k++) {
            due("ran(0, 2, " + k + ")", x.ran(0, 2, k), corners[k]);
        }
        due("ran(0, 2, 400)", x.ran(0, 2, 400), 0);
        for (int k : new int[] {Integer.MIN_VALUE, -1, 0, 1, 400, 401, Integer.MAX_VALUE}) {
            due("ran(0, 0, " + k + ")", x.ran(0, 0, k), 8);
            due("ran(0, 1, " + k + ")", x.ran(0, 1, k), 0);
        }
        dueTold(x, 0, 0, 0);
    }

    @Says("Promise 18: THE RULE by which the RUN takes the fewest TICKS (what 0; of like ones the least), how many (1). BAD.")
    private static void bestOfTheRules() {
        span("best", () -> some(3), 0, 1, CubeLegs::best);
        span("best", () -> cube(3), 0, 1, CubeLegs::best);
        due("best(0) without PARCELS", new CubeLegs().best(0), 0);
        due("best(1) without PARCELS", new CubeLegs().best(1), 0);
        due("best(0), all alike", alike(1, 16, 0, 1, 0).best(0), 0);
        due("best(1), all alike", alike(1, 16, 0, 1, 0).best(1), 16);
        // The far one has the lower rank, and both came at once: FARTHEST, or SECOND by its legs.
        CubeLegs x = cube(2);
        x.parcel(0, 1, 1, 9);
        x.parcel(0, 3, 0, 8);
        due("best(0)", x.best(0), 2);
        due("best(1)", x.best(1), 2);
        x.sets(1, 3, 9);
        due("best(0), like ranks", x.best(0), 2);
        x.sets(1, 3, 10);
        due("best(0), the greater rank", x.best(0), 0);
        due("THE RULE stays", x.told(7), 0);
    }

    @Says("Promise 18: of like ones the least")
    private static void bestIsTheLeastOfTheFewest() {
        int[][][] parcels = {
            {{0, 1, 0, 0}, {0, 1, 0, 0}},
            {{3, 1, 1, 0}, {2, 3, 1, 3}, {3, 1, 3, 1}},
            {{0, 1, 1, 9}, {0, 3, 0, 8}},
            {{2, 3, 1, 0}, {0, 0, 1, 2}, {0, 3, 0, 2}}};
        int[][] ticks = {{2, 2, 2, 2}, {4, 3, 3, 3}, {3, 3, 2, 2}, {4, 4, 4, 3}};
        for (int best = 0; best < 4; best++) {
            CubeLegs x = cube(2);
            for (int[] p : parcels[best]) {
                x.parcel(p[0], p[1], p[2], p[3]);
            }
            for (int rule = 0; rule < 4; rule++) {
                x.rules(1, rule);
                due("run(0) by RULE " + rule, x.run(0), ticks[best][rule]);
                due("best(0)", x.best(0), best);
                due("best(1)", x.best(1), ticks[best][best]);
                due("THE RULE stays", x.told(7), rule);
            }
        }
    }

    @Says("Promise 19: CONGESTION, went all PARCELS straight from FROM to TO (BETWEEN as FROM).")
    private static void straightOfNoneAndAll() {
        due("straight()", new CubeLegs().straight(), 0);
        CubeLegs x = alike(1, 16, 0, 0, 1);
        due("loads(0)", x.loads(0), 16);
        due("straight()", x.straight(), 0);
        x.sets(15, 1, 1);
        due("straight()", x.straight(), 1);
        due("straight() of 16", alike(4, 16, 15, 7, 0).straight(), 16);
        due("BETWEEN stays", x.of(15, 2), 1);
    }

    // ---- promises 20 to 25: texts

    @Says("Promise 20: A byte (0 .. 127) comes behind THE TEXT: how many it has. BAD; FULL: 120.")
    private static void typeWithinBounds() {
        span("type", () -> some(3), 0, 127, CubeLegs::type);
        span("type", CubeLegs::new, 0, 127, CubeLegs::type);
        refused("type", CubeLegsBoundaries::full, x -> x.type(0), FULL);
        refused("type", CubeLegsBoundaries::full, x -> x.type(128), BAD);
        CubeLegs x = full();
        x.clear();
        due("type(0)", x.type(0), 1);
        types(x, "\0".repeat(119));
        due("type(127)", x.type(127), 120);
        due("type(127)", x.type(127), FULL);
        due("told(8): no STATE", x.told(8), 6);
    }

    @Says("Promise 21: THE TEXT is empty: how many it had.")
    private static void clearOfNoneAndFull() {
        CubeLegs x = full();
        due("clear()", x.clear(), 120);
        due("clear()", x.clear(), 0);
        due("reads()", x.reads(), -10);
        due("type(32)", x.type(32), 1);
        due("clear()", x.clear(), 1);
        dueTold(x, 0, 0, 0, 0, 4, 16, 1, 2, 6);
        // Behind the new end nothing of the old text stands.
        x = new CubeLegs();
        dueReads(x, "0>1;0>1;", 2);
        dueReads(x, "0>1;", 1);
        dueReads(x, "0>1", -13);
    }

    @Says("Promise 22: PARCELS come as THE TEXT tells: how many. S. -10 less the FAULT.")
    private static void readsOneAndAll() {
        CubeLegs x = cube(4);
        dueReads(x, "15>0*99;", 1);
        dueTold(x, 0, 0, 0, 8, 4, 1, 0, 0, 2);
        dueReads(x, "1>2;".repeat(15), 15);
        dueTold(x, 0, 0, 0, 60, 4, 16, 0, 0, 3);
        dueParcel(x, 0, 15, 0, 15, 99);
        dueParcel(x, 15, 1, 2, 1, 0);
        due("back(): all that came at once", x.back(), 2);
        due("told(5)", x.told(5), 1);
        due("THE TEXT stays", x.told(3), 60);
        due("reads() again", x.reads(), 15);
        due("reads() once more", x.reads(), -10);
        dueReads(x, " ".repeat(120), -130);
    }

    @Says("Promise 23: A STATE back: how many can be yet. NO: none.")
    private static void backToTheLast() {
        refused("back()", CubeLegs::new, CubeLegs::back, NO);
        CubeLegs x = new CubeLegs();
        x.sides(4);
        due("back()", x.back(), 0);
        due("told(4)", x.told(4), 3);
        due("back()", x.back(), NO);
        due("told(1)", x.told(1), 1);
        x = full();
        int[] left = {5, 4, 3, 2, 1, 0, NO, NO};
        int[] order = {1, 1, 1, 0, 0, 0, 0, 0};
        int[] rule = {2, 2, 0, 0, 0, 0, 0, 0};
        int[] sides = {4, 4, 4, 4, 4, 3, 3, 3};
        int[] count = {16, 16, 16, 16, 0, 0, 0, 0};
        for (int i = 0; i < left.length; i++) {
            due("back()", x.back(), left[i]);
            dueTold(x, 0, Math.max(0, i - 5), 0, 120, sides[i], count[i], order[i], rule[i], Math.max(0, left[i]));
        }
    }

    @Says("Promise 24: How often refused: BAD (0), NO (1), FULL (2); .. STATES (8). BAD.")
    private static void toldWithinBounds() {
        span("told", () -> some(3), 0, 8, CubeLegs::told);
        span("told", CubeLegsBoundaries::full, 0, 8, CubeLegs::told);
        CubeLegs x = new CubeLegs();
        for (int i = 0; i < 100; i++) {
            x.back();
            x.part(2);
            x.part(-1);
        }
        dueTold(x, 200, 100, 0, 0, 3, 0, 0, 0, 0);
        x = full();
        x.type(0);
        x.parcel(0, 0, 0, 0);
        x.parcel(0, 0, 0, 0);
        dueTold(x, 0, 0, 3, 120, 4, 16, 1, 2, 6);
    }

    @Says("Promise 25: h = 2141; then h = 31 h + v for each v (a long, wrapped around)")
    private static void digestOfNoneAndFull() {
        CubeLegs x = new CubeLegs();
        due("digest()", x.digest(), digestByParts(x));
        x.told(9);
        x.back();
        due("digest()", x.digest(), digestByParts(x));
        x = full();
        due("digest()", x.digest(), digestByParts(x));
        x.type(0);
        due("digest()", x.digest(), digestByParts(x));
        x = alike(4, 1, 15, 15, 0);
        due("digest()", x.digest(), digestByParts(x));
    }

    private static long digestByParts(CubeLegs x) {
        BigInteger h = BigInteger.valueOf(2141);
        for (int what = 0; what <= 8; what++) {
            h = fold(h, x.told(what));
        }
        for (int p = 0; p < x.told(5); p++) {
            for (int what = 0; what <= 5; what++) {
                h = fold(h, x.of(p, what));
            }
        }
        h = fold(fold(h, x.part(0)), x.part(1));
        h = fold(fold(fold(h, x.loads(0)), x.loads(1)), x.loads(2));
        h = fold(fold(fold(h, x.run(0)), x.run(1)), x.run(2));
        return h.longValue();
    }

    private static BigInteger fold(BigInteger h, int v) {
        return h.multiply(BigInteger.valueOf(31)).add(BigInteger.valueOf(v));
    }

    public static void main(String[] args) throws IllegalAccessException, InvocationTargetException {
        Method[] tests = CubeLegsBoundaries.class.getDeclaredMethods();
        Arrays.sort(tests, Comparator.comparing(Method::getName));
        int ran = 0;
        for (Method test : tests) {
            Says says = test.getAnnotation(Says.class);
            if (says != null) {
                sentence = says.value();
                test.invoke(null);
                ran++;
            }
        }
        System.out.println(ran + " sentences: "
            + (wrong == 0 ? "all answers are as due" : wrong + " answers are not as due"));
        if (wrong != 0 || ran == 0) {
            System.exit(1);
        }
    }
}

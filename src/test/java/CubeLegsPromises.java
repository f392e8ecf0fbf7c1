/** A section for each promise; the answers due are worked out by hand from the document. */
public final class CubeLegsPromises {
    private static int promise = 0;
    private static int wrong = 0;

    private static void due(String call, long got, long want) {
        if (got != want) {
            wrong++;
            System.out.println("promise " + promise + ": " + call + " answered " + got + ", due is " + want);
        }
    }

    /** All that told answers, in one row. */
    private static void dueTold(CubeLegs x, int... want) {
        for (int what = 0; what < want.length; what++) {
            due("told(" + what + ")", x.told(what), want[what]);
        }
    }

    private static void dueParcel(CubeLegs x, int p, int... want) {
        for (int what = 0; what < want.length; what++) {
            due("of(" + p + ", " + what + ")", x.of(p, what), want[what]);
        }
    }

    private static void dueFraction(CubeLegs x, int above, int below) {
        due("part(0)", x.part(0), above);
        due("part(1)", x.part(1), below);
    }

    private static void types(CubeLegs x, String text) {
        x.clear();
        for (int i = 0; i < text.length(); i++) {
            due("type", x.type(text.charAt(i)), i + 1);
        }
    }

    private static void dueReads(CubeLegs x, String text, int want) {
        types(x, text);
        due("reads of '" + text + "'", x.reads(), want);
    }

    private static long fold(long... values) {
        long h = 2141;
        for (long v : values) {
            h = 31 * h + v;
        }
        return h;
    }

    private static CubeLegs cube(int sides) {
        CubeLegs x = new CubeLegs();
        x.sides(sides);
        return x;
    }

    private static void newObject() {
        CubeLegs x = new CubeLegs();
        dueTold(x, 0, 0, 0, 0, 3, 0, 0, 0, 0);
        dueFraction(x, 0, 1);
        due("straight()", x.straight(), 0);
        due("NONE", CubeLegs.NONE, -1);
        due("BAD", CubeLegs.BAD, -2);
        due("NO", CubeLegs.NO, -3);
        due("FULL", CubeLegs.FULL, -4);
    }

    private static void sides() {
        CubeLegs x = new CubeLegs();
        x.parcel(7, 7, 7, 7);
        x.rules(0, 1);
        x.rules(1, 2);
        due("sides(4)", x.sides(4), 3);
        dueTold(x, 0, 0, 0, 0, 4, 0, 1, 2, 4);
        due("parcel(15, 15, 15, 0)", x.parcel(15, 15, 15, 0), 0);
        due("sides(4)", x.sides(4), 4);
        due("told(5)", x.told(5), 0);
        due("sides(0)", x.sides(0), -2);
        due("sides(5)", x.sides(5), -2);
        due("sides(min)", x.sides(Integer.MIN_VALUE), -2);
        dueTold(x, 3, 0, 0, 0, 4, 0, 1, 2, 6);
        due("sides(1)", x.sides(1), 4);
        due("parcel(2, 0, 0, 0)", x.parcel(2, 0, 0, 0), -2);
        due("parcel(1, 0, 1, 0)", x.parcel(1, 0, 1, 0), 0);
        x.back();
        x.back();
        due("told(4)", x.told(4), 4);
        x.back();
        dueParcel(x, 0, 15, 15, 15, 0);
    }

    private static void parcel() {
        CubeLegs x = new CubeLegs();
        int[][] bad = {{8, 0, 0, 0}, {-1, 0, 0, 0}, {0, 8, 0, 0}, {0, -1, 0, 0}, {0, 0, 8, 0}, {0, 0, -1, 0},
            {0, 0, 0, 100}, {0, 0, 0, -1}, {Integer.MAX_VALUE, 0, 0, 0}, {0, 0, 0, Integer.MIN_VALUE}};
        for (int[] b : bad) {
            due("a bad parcel", x.parcel(b[0], b[1], b[2], b[3]), -2);
        }
        dueTold(x, 10, 0, 0, 0, 3, 0, 0, 0, 0);
        due("parcel(7, 6, 5, 99)", x.parcel(7, 6, 5, 99), 0);
        dueParcel(x, 0, 7, 6, 5, 99);
        for (int p = 1; p < 16; p++) {
            due("parcel", x.parcel(0, 7, 0, p), p);
        }
        due("parcel more than 16", x.parcel(0, 0, 0, 0), -4);
        due("bad parcel more than 16", x.parcel(0, 0, 0, 100), -2);
        dueTold(x, 11, 0, 1, 0, 3, 16, 0, 0, 6);
        x.back();
        due("told(5)", x.told(5), 15);
        due("parcel", x.parcel(1, 2, 3, 4), 15);
        dueParcel(x, 15, 1, 2, 3, 4);
    }

    private static void sets() {
        CubeLegs x = new CubeLegs();
        due("sets(0, 0, 0)", x.sets(0, 0, 0), -2);
        x.parcel(1, 2, 3, 4);
        x.parcel(0, 0, 0, 0);
        due("sets(0, 0, 7)", x.sets(0, 0, 7), 1);
        due("sets(0, 1, 6)", x.sets(0, 1, 6), 2);
        due("sets(0, 2, 5)", x.sets(0, 2, 5), 3);
        due("sets(0, 3, 99)", x.sets(0, 3, 99), 4);
        dueParcel(x, 0, 7, 6, 5, 99);
        dueParcel(x, 1, 0, 0, 0, 0);
        int[][] bad = {{2, 0, 0}, {-1, 0, 0}, {0, 4, 0}, {0, -1, 0}, {0, 0, 8}, {0, 1, 8}, {0, 2, 8},
            {0, 0, -1}, {0, 3, 100}, {0, 3, -1}, {Integer.MAX_VALUE, 0, 0}, {0, Integer.MAX_VALUE, 0}};
        for (int[] b : bad) {
            due("bad sets", x.sets(b[0], b[1], b[2]), -2);
        }
        dueTold(x, 13, 0, 0, 0, 3, 2, 0, 0, 6);
        x.back();
        dueParcel(x, 0, 7, 6, 5, 4);
    }

    private static void rules() {
        CubeLegs x = new CubeLegs();
        x.parcel(0, 7, 0, 0);
        due("step(0, 1)", x.step(0, 1), 1);
        due("rules(0, 1)", x.rules(0, 1), 0);
        due("step(0, 1)", x.step(0, 1), 4);
        due("rules(0, 0)", x.rules(0, 0), 1);
        due("rules(1, 3)", x.rules(1, 3), 0);
        due("rules(1, 1)", x.rules(1, 1), 3);
        int[][] bad = {{2, 0}, {-1, 0}, {0, 2}, {0, -1}, {1, 4}, {1, -1}, {Integer.MIN_VALUE, 0}};
        for (int[] b : bad) {
            due("bad rules", x.rules(b[0], b[1]), -2);
        }
        dueTold(x, 7, 0, 0, 0, 3, 1, 0, 1, 5);
        x.back();
        due("told(7)", x.told(7), 3);
        x.back();
        x.back();
        due("told(6)", x.told(6), 1);
    }

    private static void empties() {
        CubeLegs x = new CubeLegs();
        due("empties()", x.empties(), 0);
        x.parcel(1, 2, 3, 4);
        x.parcel(1, 2, 3, 5);
        x.rules(1, 2);
        due("empties()", x.empties(), 2);
        dueTold(x, 0, 0, 0, 0, 3, 0, 0, 2, 5);
        due("of(0, 0)", x.of(0, 0), -2);
        x.back();
        dueParcel(x, 1, 1, 2, 3, 5);
    }

    private static void fills() {
        // The drawn numbers from seed 0: 12345, 1406932606, 654583775, 1449466924, ..
        CubeLegs x = new CubeLegs();
        x.parcel(1, 1, 1, 1);
        due("fills(3, 0)", x.fills(3, 0), 8);
        dueParcel(x, 0, 0, 0, 0, 12);
        dueParcel(x, 1, 1, 0, 4, 57);
        dueParcel(x, 2, 2, 0, 4, 41);
        dueParcel(x, 3, 3, 2, 5, 95);
        int[][] to = {{7, 6, 5, 4, 3, 2, 1, 0}, {0, 4, 2, 6, 1, 5, 3, 7}, {1, 2, 3, 4, 5, 6, 7, 0}};
        for (int how = 0; how < 3; how++) {
            due("fills(how, 0)", x.fills(how, 0), 8);
            for (int corner = 0; corner < 8; corner++) {
                dueParcel(x, corner, corner, to[how][corner]);
            }
            dueParcel(x, 3, 3, to[how][3], 5, 95);
        }
        due("fills(4, 0)", x.fills(4, 0), -2);
        due("fills(-1, 0)", x.fills(-1, 0), -2);
        due("fills(0, -1)", x.fills(0, -1), -2);
        due("fills(0, 1000000)", x.fills(0, 1000000), -2);
        dueTold(x, 4, 0, 0, 0, 3, 8, 0, 0, 5);
        due("fills(0, 999999)", x.fills(0, 999999), 8);
        x = cube(4);
        due("fills(1, 0)", x.fills(1, 0), 16);
        dueParcel(x, 1, 1, 8, 12, 57);
        dueParcel(x, 6, 6, 6);
        dueParcel(x, 7, 7, 14);
        due("parcel", x.parcel(0, 0, 0, 0), -4);
        x = cube(1);
        due("fills(2, 0)", x.fills(2, 0), 2);
        dueParcel(x, 0, 0, 1, 0, 12);
        dueParcel(x, 1, 1, 0, 0, 57);
    }

    private static void of() {
        CubeLegs x = new CubeLegs();
        due("of(0, 0)", x.of(0, 0), -2);
        x.parcel(0, 3, 1, 9);
        x.parcel(0, 1, 0, 0);
        x.parcel(1, 0, 1, 0);
        x.parcel(5, 5, 2, 1);
        x.parcel(1, 3, 1, 2);
        dueParcel(x, 0, 0, 3, 1, 9, 2, 2);
        dueParcel(x, 1, 0, 1, 0, 0, 1, 1);
        dueParcel(x, 2, 1, 0, 1, 0, 1, 0);
        dueParcel(x, 3, 5, 5, 2, 1, 6, 0);
        dueParcel(x, 4, 1, 3, 1, 2, 1, 1);
        due("of(5, 0)", x.of(5, 0), -2);
        due("of(-1, 0)", x.of(-1, 0), -2);
        due("of(0, 6)", x.of(0, 6), -2);
        due("of(0, -1)", x.of(0, -1), -2);
        due("told(0)", x.told(0), 5);
        // Two meet where one is on its first leg and the other on its second one.
        x = cube(2);
        x.parcel(0, 2, 1, 0);
        x.parcel(1, 0, 3, 0);
        x.parcel(1, 1, 0, 0);
        dueParcel(x, 0, 0, 2, 1, 0, 3, 1);
        dueParcel(x, 1, 1, 0, 3, 0, 3, 0);
        dueParcel(x, 2, 1, 1, 0, 0, 2, 1);
    }

    private static void step() {
        CubeLegs x = new CubeLegs();
        due("step(0, 0)", x.step(0, 0), -2);
        x.parcel(0, 1, 6, 0);
        int[] rising = {0, 2, 6, 7, 5, 1, -5, -5};
        for (int k = 0; k < rising.length; k++) {
            due("step(0, " + k + ")", x.step(0, k), rising[k]);
        }
        x.rules(0, 1);
        int[] falling = {0, 4, 6, 2, 0, 1, -5, -5};
        for (int k = 0; k < falling.length; k++) {
            due("step(0, " + k + ")", x.step(0, k), falling[k]);
        }
        due("step(0, max)", x.step(0, Integer.MAX_VALUE), -5);
        due("step(0, -1)", x.step(0, -1), -2);
        due("step(1, 0)", x.step(1, 0), -2);
        due("step(-1, 0)", x.step(-1, 0), -2);
        dueTold(x, 4, 0, 0);
    }

    private static void load() {
        CubeLegs x = cube(2);
        due("load(0, 0)", x.load(0, 0), 0);
        x.parcel(0, 0, 3, 0);
        x.parcel(0, 3, 0, 0);
        x.parcel(2, 1, 3, 0);
        due("load(0, 0)", x.load(0, 0), 2);
        due("load(1, 1)", x.load(1, 1), 2);
        due("load(3, 0)", x.load(3, 0), 1);
        due("load(2, 1)", x.load(2, 1), 1);
        due("load(2, 0)", x.load(2, 0), 1);
        due("load(3, 1)", x.load(3, 1), 1);
        due("load(1, 0)", x.load(1, 0), 0);
        due("load(0, 1)", x.load(0, 1), 0);
        int[][] bad = {{4, 0}, {-1, 0}, {0, 2}, {0, -1}, {Integer.MAX_VALUE, 0}, {0, Integer.MIN_VALUE}};
        for (int[] b : bad) {
            due("bad load", x.load(b[0], b[1]), -2);
        }
        due("told(0)", x.told(0), 6);
    }

    private static void loads() {
        int[] edges = {2, 8, 24, 64};
        for (int d = 1; d <= 4; d++) {
            CubeLegs x = cube(d);
            x.parcel(0, 0, 0, 0);
            due("loads(0)", x.loads(0), 0);
            due("loads(1)", x.loads(1), edges[d - 1]);
            due("loads(2)", x.loads(2), 0);
            due("loads(3)", x.loads(3), -1);
        }
        CubeLegs x = new CubeLegs();
        x.parcel(7, 3, 7, 0);
        x.parcel(7, 3, 7, 0);
        x.parcel(6, 4, 6, 0);
        due("loads(0)", x.loads(0), 2);
        due("loads(1)", x.loads(1), 1);
        due("loads(2)", x.loads(2), 2);
        due("loads(3)", x.loads(3), 72);
        x.parcel(6, 4, 6, 0);
        due("loads(1)", x.loads(1), 2);
        due("loads(3)", x.loads(3), 61);
        due("loads(4)", x.loads(4), -2);
        due("loads(-1)", x.loads(-1), -2);
        due("told(0)", x.told(0), 2);
    }

    private static void expected() {
        // From 0 to 1 on two sides, rising: of the betweens 0, 1, 2, 3 all but 2 use the edge 0 along 0.
        CubeLegs x = cube(2);
        due("expected(0, 0, 0)", x.expected(0, 0, 0), 1);
        dueFraction(x, 0, 1);
        x.parcel(0, 1, 2, 0);
        due("expected(0, 0, 0)", x.expected(0, 0, 0), 1);
        dueFraction(x, 3, 4);
        x.expected(0, 0, 1);
        dueFraction(x, 0, 1);
        x.expected(2, 0, 0);
        dueFraction(x, 1, 4);
        x.expected(0, 1, 0);
        dueFraction(x, 1, 4);
        x.expected(3, 1, 16);
        dueFraction(x, 1, 1);
        x.parcel(0, 1, 0, 0);
        x.expected(0, 0, 0);
        dueFraction(x, 3, 2);
        x.expected(0, 0, 1);
        dueFraction(x, 3, 4);
        x.expected(0, 0, 2);
        dueFraction(x, 1, 1);
        int[][] bad = {{4, 0, 0}, {-1, 0, 0}, {0, 2, 0}, {0, -1, 0}, {0, 0, 17}, {0, 0, -1}};
        for (int[] b : bad) {
            due("bad expected", x.expected(b[0], b[1], b[2]), -2);
        }
        dueFraction(x, 1, 1);
        dueTold(x, 6, 0, 0, 0, 2, 2, 0, 0, 3);
    }

    private static void part() {
        CubeLegs x = cube(1);
        dueFraction(x, 0, 1);
        due("part(2)", x.part(2), -2);
        due("part(-1)", x.part(-1), -2);
        due("told(0)", x.told(0), 2);
        x.parcel(0, 0, 0, 0);
        x.expected(0, 0, 0);
        dueFraction(x, 1, 2);
        x.empties();
        dueFraction(x, 1, 2);
        x.back();
        x.back();
        dueFraction(x, 1, 2);
        x.expected(0, 0, 0);
        dueFraction(x, 0, 1);
    }

    private static void greatest() {
        CubeLegs x = cube(2);
        due("greatest()", x.greatest(), -3);
        due("told(1)", x.told(1), 1);
        x.parcel(0, 1, 2, 0);
        due("greatest()", x.greatest(), 0);
        dueFraction(x, 3, 4);
        x.empties();
        // From 3 to 3, rising: 3 along 0 for the betweens 0 and 2, and 1 along 1 for 0 and 1; the first is due.
        x.parcel(3, 3, 3, 0);
        due("greatest()", x.greatest(), 11);
        dueFraction(x, 1, 2);
        // Falling: 3 along 1 for the betweens 0 and 1, and 2 along 0 for 0 and 2.
        x.rules(0, 1);
        due("greatest()", x.greatest(), 20);
        dueFraction(x, 1, 2);
        due("told(8)", x.told(8), 5);
    }

    private static void chooses() {
        CubeLegs x = cube(1);
        due("chooses()", x.chooses(), -3);
        dueTold(x, 0, 1, 0, 0, 1, 0, 0, 0, 1);
        // For the first both betweens are alike, so the least; the second one, which is home, stays.
        x.parcel(0, 1, 1, 0);
        x.parcel(0, 0, 1, 7);
        due("chooses()", x.chooses(), 1);
        dueParcel(x, 0, 0, 1, 0, 0);
        dueParcel(x, 1, 0, 0, 0, 7);
        due("told(8)", x.told(8), 4);
        x.back();
        dueParcel(x, 0, 0, 1, 1, 0);
        x = cube(1);
        x.parcel(1, 1, 0, 0);
        due("chooses()", x.chooses(), 0);
        due("of(0, 2)", x.of(0, 2), 1);
        // Two alike: by 2 the first goes the other way round than most ways of the second one.
        x = cube(2);
        x.parcel(0, 3, 0, 0);
        x.parcel(0, 3, 1, 0);
        due("chooses()", x.chooses(), 1);
        dueParcel(x, 0, 0, 3, 2, 0, 2, 0);
        dueParcel(x, 1, 0, 3, 0, 0, 2, 0);
        // The greatest is 5/4 by 0, 2 and 3, and 6/4 by 1; the squares are 76/16 by 0, 36/16 by 2 and 3.
        x = cube(2);
        x.parcel(2, 3, 1, 0);
        x.parcel(1, 1, 3, 0);
        due("chooses()", x.chooses(), 1);
        due("of(0, 2)", x.of(0, 2), 2);
        due("of(1, 2)", x.of(1, 2), 1);
    }

    /** 0 waits at the edge at once with 2; 1 comes a tick later, on its second leg. */
    private static CubeLegs meeting(int rule) {
        CubeLegs x = cube(2);
        x.parcel(0, 1, 0, 9);
        x.parcel(2, 1, 0, 3);
        x.parcel(0, 1, 1, 5);
        x.rules(1, rule);
        return x;
    }

    private static void run() {
        int[][] due = {{3, 2, 1, 1, 2}, {3, 2, 1, 1, 2}, {3, 2, 1, 1, 2}, {3, 2, 2, 2, 2}};
        for (int rule = 0; rule < 4; rule++) {
            CubeLegs x = meeting(rule);
            for (int what = 0; what < 5; what++) {
                due("run(" + what + ") by rule " + rule, x.run(what), due[rule][what]);
            }
        }
        CubeLegs x = cube(1);
        due("run(0)", x.run(0), 0);
        due("run(2)", x.run(2), 0);
        due("run(3)", x.run(3), -1);
        due("run(4)", x.run(4), 0);
        x.parcel(0, 0, 0, 0);
        due("run(0)", x.run(0), 0);
        due("run(3)", x.run(3), 0);
        due("ran(0, 0, 0)", x.ran(0, 0, 0), 0);
        for (int i = 0; i < 15; i++) {
            x.parcel(0, 1, 0, i);
        }
        due("run(0)", x.run(0), 15);
        due("run(1)", x.run(1), 105);
        due("run(2)", x.run(2), 14);
        due("run(3)", x.run(3), 1);
        due("run(4)", x.run(4), 15);
        x.sets(0, 1, 1);
        due("run(1)", x.run(1), 120);
        due("run(2)", x.run(2), 15);
        due("run(3)", x.run(3), 1);
        due("ran(0, 1, 0)", x.ran(0, 1, 0), 14);
        due("run(5)", x.run(5), -2);
        due("run(-1)", x.run(-1), -2);
        due("told(0)", x.told(0), 2);
    }

    private static void ran() {
        // FIFO lets 2 go ahead of 1, which came later; SECOND lets 1 go ahead, of the lower rank.
        int[][] home = {{1, 3, 2}, {1, 3, 2}, {1, 3, 2}, {1, 2, 3}};
        int[][] delay = {{0, 1, 1}, {0, 1, 1}, {0, 1, 1}, {0, 0, 2}};
        for (int rule = 0; rule < 4; rule++) {
            CubeLegs x = meeting(rule);
            for (int p = 0; p < 3; p++) {
                due("ran(" + p + ", 0) by rule " + rule, x.ran(p, 0, 0), home[rule][p]);
                due("ran(" + p + ", 1) by rule " + rule, x.ran(p, 1, -1), delay[rule][p]);
            }
        }
        // FIFO against RANKED: the one that comes later has the greater rank.
        CubeLegs x = meeting(0);
        x.sets(1, 3, 8);
        due("ran(1, 0, 0) by FIFO", x.ran(1, 0, 0), 3);
        int[] corners = {2, 0, 0, 1, 1};
        for (int k = 0; k < corners.length; k++) {
            due("ran(1, 2, " + k + ")", x.ran(1, 2, k), corners[k]);
        }
        due("ran(1, 2, 400)", x.ran(1, 2, 400), 1);
        x.rules(1, 1);
        due("ran(1, 0, 0) by RANKED", x.ran(1, 0, 0), 2);
        due("ran(2, 0, 999)", x.ran(2, 0, 999), 3);
        // Of like ranks the least parcel goes ahead.
        x = cube(1);
        x.parcel(0, 1, 0, 4);
        x.parcel(0, 1, 0, 4);
        for (int rule = 0; rule < 4; rule++) {
            x.rules(1, rule);
            due("ran(0, 0, 0)", x.ran(0, 0, 0), 1);
            due("ran(1, 0, 0)", x.ran(1, 0, 0), 2);
        }
        int[][] bad = {{2, 0, 0}, {-1, 0, 0}, {0, 3, 0}, {0, -1, 0}, {0, 2, 401}, {0, 2, -1}};
        for (int[] b : bad) {
            due("bad ran", x.ran(b[0], b[1], b[2]), -2);
        }
        due("told(0)", x.told(0), 6);
    }

    private static void best() {
        CubeLegs x = cube(2);
        due("best(0)", x.best(0), 0);
        due("best(1)", x.best(1), 0);
        // The one that has farther to go has the lower rank, and is on its first leg yet.
        x.parcel(0, 1, 0, 9);
        x.parcel(0, 3, 1, 0);
        due("run(0)", x.run(0), 3);
        due("best(0)", x.best(0), 2);
        due("best(1)", x.best(1), 2);
        due("told(7)", x.told(7), 0);
        // Now on its first leg is the one that has less far to go: 2 and 3 are alike, the least counts.
        x.sets(0, 2, 1);
        x.sets(1, 2, 0);
        due("best(0)", x.best(0), 2);
        x.sets(1, 3, 10);
        due("best(0)", x.best(0), 0);
        due("best(1)", x.best(1), 2);
        due("best(2)", x.best(2), -2);
        due("best(-1)", x.best(-1), -2);
        due("told(0)", x.told(0), 2);
    }

    private static void straight() {
        CubeLegs x = new CubeLegs();
        x.parcel(0, 3, 4, 0);
        x.parcel(0, 7, 2, 0);
        x.parcel(4, 6, 6, 0);
        due("loads(0)", x.loads(0), 1);
        due("straight()", x.straight(), 2);
        due("of(0, 2)", x.of(0, 2), 4);
        x.sets(2, 0, 1);
        x.sets(2, 1, 2);
        due("straight()", x.straight(), 2);
        x.sets(2, 1, 3);
        due("straight()", x.straight(), 3);
        x.rules(0, 1);
        due("straight()", x.straight(), 1);
    }

    private static void type() {
        CubeLegs x = new CubeLegs();
        due("type(-1)", x.type(-1), -2);
        due("type(128)", x.type(128), -2);
        due("type(0)", x.type(0), 1);
        due("type(127)", x.type(127), 2);
        for (int i = 3; i <= 120; i++) {
            due("type(32)", x.type(32), i);
        }
        due("type(32)", x.type(32), -4);
        due("type(128)", x.type(128), -2);
        dueTold(x, 3, 0, 1, 120, 3, 0, 0, 0, 0);
    }

    private static void clear() {
        CubeLegs x = new CubeLegs();
        due("clear()", x.clear(), 0);
        x.type(48);
        x.type(48);
        due("clear()", x.clear(), 2);
        dueTold(x, 0, 0, 0, 0, 3, 0, 0, 0, 0);
        due("type(48)", x.type(48), 1);
    }

    private static void reads() {
        CubeLegs x = new CubeLegs();
        dueReads(x, "1>2;3>4/5;6>7*8;01>02/03*04;", 4);
        dueParcel(x, 0, 1, 2, 1, 0);
        dueParcel(x, 1, 3, 4, 5, 0);
        dueParcel(x, 2, 6, 7, 6, 8);
        dueParcel(x, 3, 1, 2, 3, 4);
        due("told(3)", x.told(3), 28);
        due("reads() again", x.reads(), 4);
        due("told(8)", x.told(8), 2);
        dueReads(x, "  0 >  7 / 3  * 99 ;  ", 1);
        dueParcel(x, 8, 0, 7, 3, 99);
        String[] faulty = {"", "   ", "0", "0>", "0>1", "0>1/", "0>1*", "0>1*5", "0>1;2", "0>1 ", "0 1>2;",
            "0>1 2;", "0>8;", "8>0;", "0>1/8;", "008>0;", "0>123", "0>1*100;", "0>1*1 0;", "0>1*5/3;", "0>1//2;",
            "0>1**2;", "x", "0>>1;", "0>1;;", "0>1;x", "0>1,", "0>1;3>9;", "-1>0;", "0>9", "0\t>1;", "0>+1;",
            "0>99999999999999;", "0>1/;", "0>1*;"};
        int[] fault = {0, 3, 1, 2, 3, 4, 4, 5, 5, 4, 2,
            4, 2, 0, 4, 0, 2, 4, 6, 5, 4,
            4, 0, 2, 4, 4, 3, 6, 0, 2, 1, 2,
            2, 4, 4};
        for (int i = 0; i < faulty.length; i++) {
            dueReads(x, faulty[i], -10 - fault[i]);
        }
        dueTold(x, 0, 0, 0, 5, 3, 9, 0, 0, 3);
        // What a longer text had behind this one's end is gone.
        dueReads(x, "0>7*12;", 1);
        dueReads(x, "0>7*1", -15);
        dueReads(x, "0>7*12;", 1);
        dueReads(x, "0>7*12", -16);
    }

    private static void readsTooMany() {
        CubeLegs x = new CubeLegs();
        dueReads(x, "0>1; 0>1; 0>1; 0>1; 0>1; 0>1; 0>1; 0>1; 0>1; 0>1; 0>1; 0>1; 0>1; 0>1; 0>1; 0>1; 0>1;", -90);
        dueReads(x, "0>1; 0>1; 0>1; 0>1; 0>1; 0>1; 0>1; 0>1; 0>1; 0>1; 0>1; 0>1; 0>1; 0>1; 0>1; ", 15);
        dueReads(x, "0>1;  9>1;", -16);
        dueReads(x, "0>1;  0>9;", -16);
        dueReads(x, "0>1;", 1);
        dueReads(x, " 0>1;", -11);
        dueReads(x, "  ", -12);
        dueReads(x, "", -10);
        dueTold(x, 0, 0, 0, 0, 3, 16, 0, 0, 2);
        x = cube(4);
        dueReads(x, "15>09/10*00;", 1);
        dueParcel(x, 0, 15, 9, 10, 0);
        dueReads(x, "0>16;", -12);
    }

    private static void back() {
        CubeLegs x = new CubeLegs();
        due("back()", x.back(), -3);
        dueReads(x, "1>2/3*4;5>6;", 2);
        x.rules(0, 1);
        x.rules(1, 2);
        x.sets(0, 3, 50);
        x.chooses();
        x.sides(2);
        due("told(8)", x.told(8), 6);
        due("back()", x.back(), 5);
        dueTold(x, 0, 1, 0, 12, 3, 2, 1, 2, 5);
        due("back()", x.back(), 4);
        dueParcel(x, 0, 1, 2, 3, 50);
        due("back()", x.back(), 3);
        dueParcel(x, 0, 1, 2, 3, 4);
        due("back()", x.back(), 2);
        due("told(7)", x.told(7), 0);
        due("back()", x.back(), 1);
        due("told(6)", x.told(6), 0);
        due("back()", x.back(), 0);
        dueTold(x, 0, 1, 0, 12, 3, 0, 0, 0, 0);
        due("back()", x.back(), -3);
        dueTold(x, 0, 2, 0, 12);
        for (int i = 0; i < 9; i++) {
            x.parcel(0, 0, 0, i);
        }
        for (int left = 5; left >= 0; left--) {
            due("back()", x.back(), left);
        }
        due("back()", x.back(), -3);
        due("told(5)", x.told(5), 3);
    }

    private static void told() {
        CubeLegs x = new CubeLegs();
        x.told(9);
        x.told(-1);
        x.told(Integer.MAX_VALUE);
        x.greatest();
        x.back();
        for (int i = 0; i < 17; i++) {
            x.parcel(0, 0, 0, 0);
        }
        x.rules(0, 1);
        x.rules(1, 3);
        x.type(65);
        dueTold(x, 3, 2, 1, 1, 3, 16, 1, 3, 6);
        due("told(9)", x.told(9), -2);
        due("told(0)", x.told(0), 4);
    }

    private static void digest() {
        CubeLegs x = new CubeLegs();
        due("digest()", x.digest(), fold(0, 0, 0, 0, 3, 0, 0, 0, 0, 0, 1, 0, 24, 0, 0, 0, 0));
        x = meeting(3);
        x.type(59);
        x.type(200);
        x.expected(0, 0, 16);
        x.expected(3, 1, 0);
        long above = x.part(0);
        long below = x.part(1);
        due("digest()", x.digest(), fold(1, 0, 0, 1, 2, 3, 0, 3, 5,
            0, 1, 0, 9, 1, 2, 2, 1, 0, 3, 2, 2, 0, 1, 1, 5, 1, 2,
            above, below, 3, 1, 2, 3, 2, 2));
        due("digest() again", x.digest(), x.digest());
    }

    public static void main(String[] args) {
        Runnable[] sections = {CubeLegsPromises::newObject, CubeLegsPromises::sides, CubeLegsPromises::parcel,
            CubeLegsPromises::sets, CubeLegsPromises::rules, CubeLegsPromises::empties, CubeLegsPromises::fills,
            CubeLegsPromises::of, CubeLegsPromises::step, CubeLegsPromises::load, CubeLegsPromises::loads,
            CubeLegsPromises::expected, CubeLegsPromises::part, CubeLegsPromises::greatest,
            CubeLegsPromises::chooses, CubeLegsPromises::run, CubeLegsPromises::ran, CubeLegsPromises::best,
            CubeLegsPromises::straight, CubeLegsPromises::type, CubeLegsPromises::clear, CubeLegsPromises::reads,
            CubeLegsPromises::back, CubeLegsPromises::told, CubeLegsPromises::digest};
        for (Runnable section : sections) {
            promise++;
            section.run();
        }
        promise = 22;
        readsTooMany();
        System.out.println(wrong == 0 ? "all answers are as due" : wrong + " answers are not as due");
        if (wrong != 0) {
            System.exit(1);
        }
    }
}

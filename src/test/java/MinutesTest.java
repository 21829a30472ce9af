/** MINUTES 0 .. 62 and what would be later: of each KIND, at its P and beside it, by pipes, and at the last minutes. */
public final class MinutesTest extends Checks {
    private static final int PLAIN = 0, PUMP = 1, TANK = 2, WEIR = 3, SLOW_PUMP = 4;
    private static final int LAST = 62;

    public static void main(String[] args) {
        leavesOfEachKind();
        leavesAtTheEnds();
        comesBehindEachKind();
        comesLateBehindEachKind();
        comesAtManyMinutes();
        comesToTheStart();
        comesByPipes();
        laterIsLost();
        neverComesAround();
        timesAtTheEnds();
        finish();
    }

    /** When it leaves, by counting alone; 63 or more is lost, -1 is not at all. */
    private static int left(int kind, int p, int m) {
        int first = m;
        while (first % p != 0) {
            first++;
        }
        return switch (kind) {
            case PLAIN -> m;
            case PUMP -> first;
            case TANK -> m + p;
            case WEIR -> m >= p ? m : -1;
            default -> first + p / 10 + 1;
        };
    }

    private static long brought(int left, int low, int high) {
        long set = 0;
        for (int m = left + low; left >= 0 && m <= left + high && m <= LAST; m++) {
            set |= 1L << m;
        }
        return left > LAST ? 0 : set;
    }

    private static void leavesOfEachKind() {
        for (int kind = PLAIN; kind <= SLOW_PUMP; kind++) {
            for (int p = 1; p <= 15; p++) {
                ShaftHunt x = new ShaftHunt();
                x.shaft(kind, p);
                for (int m = 0; m <= LAST; m++) {
                    int left = left(kind, p, m);
                    due("leaves of KIND " + kind + ", P " + p + ", at " + m, x.leaves(0, m), left > LAST ? -1 : left);
                }
                due("NONE is not refused", x.told(0) + x.told(1) + x.told(2), 0);
            }
        }
    }

    private static void leaves(int kind, int p, int m, int want) {
        ShaftHunt x = new ShaftHunt();
        x.shaft(kind, p);
        due("leaves of KIND " + kind + ", P " + p + ", at " + m, x.leaves(0, m), want);
    }

    private static void leavesAtTheEnds() {
        leaves(PLAIN, 15, 0, 0);
        leaves(PLAIN, 15, 62, 62);
        // The first MINUTE from m on that P divides: m itself, if it does; 0 is divided by all.
        leaves(PUMP, 1, 0, 0);
        leaves(PUMP, 1, 62, 62);
        leaves(PUMP, 2, 61, 62);
        leaves(PUMP, 2, 62, 62);
        leaves(PUMP, 15, 0, 0);
        leaves(PUMP, 15, 1, 15);
        leaves(PUMP, 15, 15, 15);
        leaves(PUMP, 15, 16, 30);
        leaves(PUMP, 15, 60, 60);
        leaves(PUMP, 15, 61, -1);
        leaves(PUMP, 3, 60, 60);
        leaves(PUMP, 3, 61, -1);
        leaves(PUMP, 9, 55, -1);
        leaves(TANK, 1, 0, 1);
        leaves(TANK, 1, 61, 62);
        leaves(TANK, 1, 62, -1);
        leaves(TANK, 15, 0, 15);
        leaves(TANK, 15, 47, 62);
        leaves(TANK, 15, 48, -1);
        leaves(TANK, 15, 62, -1);
        // At m, if m is P or more.
        leaves(WEIR, 1, 0, -1);
        leaves(WEIR, 1, 1, 1);
        leaves(WEIR, 15, 0, -1);
        leaves(WEIR, 15, 14, -1);
        leaves(WEIR, 15, 15, 15);
        leaves(WEIR, 15, 16, 16);
        leaves(WEIR, 15, 62, 62);
        // Later by P by 10 (cut), and 1.
        leaves(SLOW_PUMP, 1, 0, 1);
        leaves(SLOW_PUMP, 1, 61, 62);
        leaves(SLOW_PUMP, 1, 62, -1);
        leaves(SLOW_PUMP, 9, 0, 1);
        leaves(SLOW_PUMP, 9, 9, 10);
        leaves(SLOW_PUMP, 10, 0, 2);
        leaves(SLOW_PUMP, 10, 10, 12);
        leaves(SLOW_PUMP, 15, 0, 2);
        leaves(SLOW_PUMP, 15, 60, 62);
        leaves(SLOW_PUMP, 12, 60, 62);
        leaves(SLOW_PUMP, 6, 60, 61);
        leaves(SLOW_PUMP, 2, 61, -1);
    }

    private static void comesBehindEachKind() {
        int[][] pipes = {{0, 0}, {9, 9}, {0, 9}, {3, 5}};
        for (int kind = PLAIN; kind <= SLOW_PUMP; kind++) {
            for (int p = 1; p <= 15; p++) {
                for (int[] pipe : pipes) {
                    ShaftHunt x = plain(2);
                    x.sets(0, 0, kind);
                    x.sets(0, 1, p);
                    x.pipe(0, 1, pipe[0], pipe[1]);
                    for (int m = 0; m <= 30; m++) {
                        due("comes behind KIND " + kind + ", P " + p + ", from " + m, x.comes(0, m, 1),
                                brought(left(kind, p, m), pipe[0], pipe[1]));
                    }
                }
            }
        }
    }

    /** Two tanks and a pipe of two minutes bring a start at 0 .. 30 to minutes 32 .. 62. */
    private static ShaftHunt late(int kind, int p, int low, int high) {
        ShaftHunt x = new ShaftHunt();
        x.shaft(TANK, 15);
        x.shaft(TANK, 15);
        x.shaft(kind, p);
        x.shaft(PLAIN, 1);
        x.pipe(0, 1, 0, 0);
        x.pipe(1, 2, 2, 2);
        x.pipe(2, 3, low, high);
        return x;
    }

    private static void comesLateBehindEachKind() {
        int[][] pipes = {{0, 0}, {9, 9}, {0, 9}, {1, 2}};
        for (int kind = PLAIN; kind <= SLOW_PUMP; kind++) {
            for (int p = 1; p <= 15; p++) {
                for (int[] pipe : pipes) {
                    ShaftHunt x = late(kind, p, pipe[0], pipe[1]);
                    for (int m = 0; m <= 30; m++) {
                        due("comes to KIND " + kind + " late", x.comes(0, m, 2), 1L << m + 32);
                        due("comes behind KIND " + kind + ", P " + p + ", late, from " + (m + 32), x.comes(0, m, 3),
                                brought(left(kind, p, m + 32), pipe[0], pipe[1]));
                    }
                }
            }
        }
    }

    // COME TO at MINUTES, a set: of each of them it LEAVES.
    private static void comesAtManyMinutes() {
        for (int kind = PLAIN; kind <= SLOW_PUMP; kind++) {
            for (int p = 1; p <= 15; p++) {
                ShaftHunt x = plain(3);
                x.sets(1, 0, kind);
                x.sets(1, 1, p);
                x.pipe(0, 1, 0, 9);
                x.pipe(1, 2, 0, 1);
                for (int m = 0; m <= 30; m++) {
                    long want = 0;
                    for (int come = m; come <= m + 9; come++) {
                        want |= brought(left(kind, p, come), 0, 1);
                    }
                    due("comes at many, KIND " + kind + ", P " + p + ", from " + m, x.comes(0, m, 2), want);
                }
            }
        }
    }

    // The SHAFT of the START is COME TO at its MINUTE, of whatever KIND; what does not LEAVE goes nowhere.
    private static void comesToTheStart() {
        for (int kind = PLAIN; kind <= SLOW_PUMP; kind++) {
            ShaftHunt x = chain(2);
            x.sets(0, 0, kind);
            x.sets(0, 1, 15);
            due("comes to the START at 0", x.comes(0, 0, 0), 1);
            due("comes to the START at 30", x.comes(0, 30, 0), 1L << 30);
            due("comes to the lower one as a START", x.comes(1, 7, 1), 1L << 7);
            due("never upwards", x.comes(1, 7, 0), 0);
        }
        ShaftHunt weir = chain(2);
        weir.sets(0, 0, WEIR);
        weir.sets(0, 1, 15);
        due("a weir below P", weir.comes(0, 14, 1), 0);
        due("a weir at P", weir.comes(0, 15, 1), 1L << 15);
        due("a weir below P is yet come to", weir.comes(0, 14, 0), 1L << 14);
        due("no PIPE, nothing comes", plain(2).comes(0, 0, 1), 0);
    }

    // By each PIPE: m and LOW .. m and HIGH.
    private static void comesByPipes() {
        ShaftHunt x = plain(2);
        x.pipe(0, 1, 9, 9);
        due("LOW alike HIGH", x.comes(0, 0, 1), bits(9));
        x.pipe(0, 1, 0, 0);
        due("each of two PIPES", x.comes(0, 0, 1), bits(0, 9));
        x.pipe(0, 1, 4, 6);
        due("each of three PIPES", x.comes(0, 30, 1), bits(30, 34, 35, 36, 39));
        x.drops(1);
        due("but not one that went", x.comes(0, 30, 1), bits(34, 35, 36, 39));
        ShaftHunt y = plain(10);
        for (int a = 0; a < 9; a++) {
            y.pipe(a + 1, a, 0, 1);
        }
        due("the longest way", y.comes(9, 3, 0), span(3, 12));
        ShaftHunt z = new ShaftHunt();
        z.shaft(WEIR, 10);
        z.shaft(PLAIN, 1);
        z.shaft(PLAIN, 1);
        z.pipe(1, 0, 0, 3);
        z.pipe(0, 2, 0, 0);
        due("only what is late enough goes on", z.comes(1, 8, 2), bits(10, 11));
    }

    // MINUTES 0 .. 62: what would be later is lost.
    private static void laterIsLost() {
        due("62 is the last", late(PLAIN, 1, 0, 0).comes(0, 30, 3), 1L << 62);
        due("63 is lost", late(PLAIN, 1, 1, 1).comes(0, 30, 3), 0);
        due("62 stays, 63 is lost", late(PLAIN, 1, 0, 1).comes(0, 30, 3), 1L << 62);
        due("61 and 62 stay", late(PLAIN, 1, 0, 1).comes(0, 29, 3), 3L << 61);
        due("62 stays, 63 to 71 are lost", late(PLAIN, 1, 0, 9).comes(0, 30, 3), 1L << 62);
        due("71 is lost", late(PLAIN, 1, 9, 9).comes(0, 30, 3), 0);
        due("62 by a tank", late(TANK, 15, 0, 0).comes(0, 15, 3), 1L << 62);
        due("63 by a tank", late(TANK, 15, 0, 0).comes(0, 16, 3), 0);
        due("77 by a tank", late(TANK, 15, 0, 9).comes(0, 30, 3), 0);
        due("60 by a pump", late(PUMP, 15, 0, 0).comes(0, 28, 3), 1L << 60);
        due("75 by a pump", late(PUMP, 15, 0, 9).comes(0, 29, 3), 0);
        due("62 by a slow pump", late(SLOW_PUMP, 15, 0, 9).comes(0, 28, 3), 1L << 62);
        due("77 by a slow pump", late(SLOW_PUMP, 15, 0, 9).comes(0, 29, 3), 0);
        due("63 by a slow pump", late(SLOW_PUMP, 1, 0, 9).comes(0, 30, 3), 0);
    }

    /** Minutes of 64 and more are no minutes from 0 on: ten tanks of 15 bring no start to any minute. */
    private static void neverComesAround() {
        ShaftHunt x = plain(10);
        for (int a = 0; a < 10; a++) {
            x.sets(a, 0, TANK);
            x.sets(a, 1, 15);
        }
        for (int a = 0; a < 9; a++) {
            x.pipe(a, a + 1, 0, 9);
        }
        due("the third tank", x.comes(0, 30, 2), span(60, 62));
        for (int b = 3; b < 10; b++) {
            due("no further tank, " + b, x.comes(0, 30, b), 0);
            due("how many at no further tank", x.times(0, 30, b, 2), 0);
        }
        due("from 0 the fifth tank, too", x.comes(0, 0, 4), span(60, 62));
        due("but not the sixth", x.comes(0, 0, 5), 0);
    }

    // Of these the first, the last, how many. NONE (0, 1): none.
    private static void timesAtTheEnds() {
        ShaftHunt x = late(PLAIN, 1, 0, 9);
        due("the first at 62", x.times(0, 30, 3, 0), 62);
        due("the last at 62", x.times(0, 30, 3, 1), 62);
        due("one at 62", x.times(0, 30, 3, 2), 1);
        due("the first at 53", x.times(0, 21, 3, 0), 53);
        due("the last yet at 62", x.times(0, 21, 3, 1), 62);
        due("ten yet", x.times(0, 21, 3, 2), 10);
        due("nine, one is lost", x.times(0, 22, 3, 2), 9);
        ShaftHunt y = late(PLAIN, 1, 1, 9);
        due("no first", y.times(0, 30, 3, 0), -1);
        due("no last", y.times(0, 30, 3, 1), -1);
        due("none", y.times(0, 30, 3, 2), 0);
        due("NONE is not refused", y.told(0), 0);
        ShaftHunt z = plain(4);
        z.pipe(0, 1, 0, 9);
        z.pipe(1, 2, 0, 9);
        z.pipe(2, 3, 0, 9);
        due("first at 0", z.times(0, 0, 3, 0), 0);
        due("last at 27", z.times(0, 0, 3, 1), 27);
        due("28 of them", z.times(0, 0, 3, 2), 28);
    }
}

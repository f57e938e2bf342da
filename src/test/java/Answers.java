/** All that an object answers, in rows that can be compared. */
final class Answers {
    private Answers() {
    }

    /** All that can be asked of a ROUTINE. */
    static int[] ask(WaysOut x, int r) {
        int[] out = new int[400];
        int n = 0;
        for (int s = 0; s < 4; s++) {
            out[n++] = x.leaves(r, s);
            out[n++] = x.ends(r, s);
            for (int exit = 0; exit < 7; exit++) {
                for (int t = 0; t < 4; t++) {
                    out[n++] = x.steps(r, s, exit, t);
                }
            }
        }
        for (int i = 0; i < 22; i++) {
            out[n++] = x.due(r, i);
        }
        out[n++] = x.takers(r);
        for (int h = 0; h <= x.takers(r); h++) {
            for (int what = 0; what < 6; what++) {
                out[n++] = x.taker(r, h, what);
            }
        }
        out[n++] = x.lost(r);
        out[n++] = x.broken(r);
        out[n++] = x.idle(r);
        for (int what = 0; what < 5; what++) {
            out[n++] = x.look(r, what);
        }
        for (int i = 0; i <= x.look(r, 0); i++) {
            out[n++] = x.look(r, 100 + i);
        }
        return out;
    }

    static int[] askAll(WaysOut x) {
        int[] out = new int[8 * 400 + 40];
        for (int r = 0; r < 8; r++) {
            System.arraycopy(ask(x, r), 0, out, 400 * r, 400);
        }
        for (int i = 0; i < 36; i++) {
            out[3200 + i] = x.is(i / 6, i % 6);
        }
        for (int what = 0; what < 4; what++) {
            out[3236 + what] = x.fault(what);
        }
        return out;
    }

    /** Whether an answer of the call of a promise says that it was refused. */
    static boolean isRefusal(int promise, long answer) {
        return answer == (promise == 4 || promise == 5 ? 0 : WaysOut.NONE);
    }

    /** The call of a promise, 2 to 17; true counts 1, false 0. */
    static long call(WaysOut x, int promise, int... a) {
        switch (promise) {
            case 2:
                return x.feed(a[0], a[1], a[2], a[3], a[4]);
            case 3:
                return x.text(a[0], a[1]);
            case 4:
                return x.under(a[0], a[1]) ? 1 : 0;
            case 5:
                return x.promise(a[0], a[1]) ? 1 : 0;
            case 6:
                return x.steps(a[0], a[1], a[2], a[3]);
            case 7:
                return x.leaves(a[0], a[1]);
            case 8:
                return x.ends(a[0], a[1]);
            case 9:
                return x.due(a[0], a[1]);
            case 10:
                return x.takers(a[0]);
            case 11:
                return x.taker(a[0], a[1], a[2]);
            case 12:
                return x.lost(a[0]);
            case 13:
                return x.broken(a[0]);
            case 14:
                return x.idle(a[0]);
            case 15:
                return x.look(a[0], a[1]);
            case 16:
                return x.is(a[0], a[1]);
            default:
                return x.fault(a[0]);
        }
    }
}

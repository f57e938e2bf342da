/** All ways by which a ROUTINE is left, told in one string. */
final class Ways {
    private Ways() {
    }

    /** Asks, from what is open, for all EXIT:THINGS=STEPS by which the ROUTINE is left, in order. */
    static void due(WaysOut x, int r, int s, String want) {
        StringBuilder got = new StringBuilder();
        int kinds = 0;
        int ends = 0;
        for (int exit = 0; exit < 7; exit++) {
            for (int t = 0; t < 4; t++) {
                int steps = x.steps(r, s, exit, t);
                if (steps != WaysOut.NONE) {
                    got.append(got.length() == 0 ? "" : " ").append(exit).append(':').append(t).append('=').append(steps);
                    kinds |= exit == 0 ? 0 : 1 << exit - 1;
                    ends |= exit == 0 ? 1 : 0;
                }
            }
        }
        Check.due("ways of " + r + " from " + s + " are <" + got + ">, due <" + want + ">: whether they are the same",
                got.toString().equals(want), true);
        Check.due("leaves(" + r + ", " + s + ")", x.leaves(r, s), kinds);
        Check.due("ends(" + r + ", " + s + ")", x.ends(r, s), ends);
    }

    static void due(String text, int s, String want) {
        due(Check.told(text), 0, s, want);
    }
}

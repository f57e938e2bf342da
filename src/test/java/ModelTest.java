import java.util.Random;

/** Promises 6 to 14 on random TEXTS (always the same ones), held against the model's RUNS. */
public final class ModelTest {
    private static final int STEPS = 24;
    private static final int STATES = 20_000;

    private final Random random;
    private final int routines;
    private final int kinds;

    private ModelTest(int seed) {
        random = new Random(seed);
        routines = 1 + random.nextInt(4);
        kinds = 1 + random.nextInt(6);
    }

    public static void main(String[] args) {
        int programs = args.length > 0 ? Integer.parseInt(args[0]) : 6000;
        int first = args.length > 1 ? Integer.parseInt(args[1]) : 0;
        int whole = 0;
        for (int seed = first; seed < first + programs; seed++) {
            whole += new ModelTest(seed).compare(seed);
        }
        Check.due("enough of the comparisons saw all RUNS: " + whole, whole > programs / 2, true);
        Check.finish("ModelTest");
    }

    private int compare(int seed) {
        String[] texts = new String[8];
        WaysOut x = new WaysOut();
        for (int r = 0; r < 8; r++) {
            texts[r] = r < routines ? randomText() : "";
            Check.due(seed + ": text " + texts[r], Check.tell(x, r, texts[r]), 0);
        }
        int[] parent = {-1, -1, -1, -1, -1, -1};
        for (int k = 0; k < 6; k++) {
            if (random.nextInt(3) == 0) {
                parent[k] = random.nextInt(k + 1) - 1;
                Check.due(seed + ": under", x.under(k, parent[k]), true);
            }
        }
        Model model = new Model(texts, parent);
        int whole = 0;
        for (int r = 0; r < routines; r++) {
            StringBuilder name = new StringBuilder().append(seed).append(": ").append(r).append(" of");
            for (int q = 0; q < routines; q++) {
                name.append(' ').append(texts[q]);
            }
            for (int s = 3; s >= 0; s--) {
                model.ask(r, s, STEPS, STATES);
                compareExits(name + " from " + s, x, r, s, model);
            }
            compareTraces(name.toString(), x, r, texts[r], model);
            comparePromise(name.toString(), x, r, model, parent);
            whole += model.seenAll ? 1 : 0;
        }
        return whole;
    }

    private static void compareExits(String name, WaysOut x, int r, int s, Model model) {
        for (int exit = 0; exit < 7; exit++) {
            for (int t = 0; t < 4; t++) {
                Integer want = model.fewest.get(4 * exit + t);
                int got = x.steps(r, s, exit, t);
                if (want != null) {
                    Check.due(name + " steps by " + exit + " to " + t, got, want);
                } else if (model.seenAll || got <= model.seenSteps) {
                    Check.due(name + " steps by " + exit + " to " + t, got, WaysOut.NONE);
                }
            }
        }
        if (model.seenAll) {
            int kinds = kindsOf(model);
            boolean ends = model.fewest.keySet().stream().anyMatch(key -> key < 4);
            Check.due(name + " leaves", x.leaves(r, s), kinds);
            Check.due(name + " ends", x.ends(r, s), ends ? 1 : 0);
        }
        if (model.seenAll && s == 0) {
            int[] dues = model.fewest.keySet().stream().mapToInt(key -> key).filter(key -> key % 4 != 0).sorted().toArray();
            for (int i = 0; i <= dues.length; i++) {
                Check.due(name + " due " + i, x.due(r, i), i < dues.length ? dues[i] : WaysOut.NONE);
            }
        }
    }

    private static int kindsOf(Model model) {
        int kinds = 0;
        for (int key : model.fewest.keySet()) {
            kinds |= key >= 4 ? 1 << key / 4 - 1 : 0;
        }
        return kinds;
    }

    /** Where the model has not seen all RUNS, the program may only know more. */
    private static void compareTraces(String name, WaysOut x, int r, String text, Model model) {
        int takers = x.takers(r);
        Check.due(name + " takers", takers >= model.taken.size(), true);
        int last = -1;
        for (int h = 0; h < takers; h++) {
            int place = x.taker(r, h, 1);
            Check.due(name + " places rise", place > last, true);
            last = place;
            int want = model.taken.getOrDefault(place, 0);
            int got = x.taker(r, h, 2);
            Check.due(name + " kind " + h, x.taker(r, h, 0), text.charAt(place) - 'A');
            Check.due(name + " taken " + h, model.seenAll ? got : got & want, want);
            Check.due(name + " swallows " + h, x.taker(r, h, 3), got != 0 && text.charAt(place + 2) == '}' ? 1 : 0);
            Check.due(name + " never " + h, x.taker(r, h, 4), got == 0 ? 1 : 0);
        }
        int lost = x.lost(r);
        Check.due(name + " lost", model.seenAll ? lost : lost & model.lost, model.lost);
    }

    private void comparePromise(String name, WaysOut x, int r, Model model, int[] parent) {
        int promised = random.nextInt(64);
        Check.due(name + " promise", x.promise(r, promised), true);
        if (!model.seenAll) {
            return;
        }
        int kinds = kindsOf(model);
        int broken = kinds;
        int idle = promised;
        for (int k = 0; k < 6; k++) {
            for (int up = k; up >= 0 && (kinds >> k & 1) == 1; up = parent[up]) {
                broken &= (promised >> up & 1) == 1 ? ~(1 << k) : -1;
                idle &= ~(1 << up);
            }
        }
        Check.due(name + " broken by " + promised, x.broken(r), broken);
        Check.due(name + " idle of " + promised, x.idle(r), idle);
    }

    private String randomText() {
        String text = statements(random.nextInt(5), 0, false);
        while (text.length() > 60) {
            text = statements(random.nextInt(4), 0, false);
        }
        return text;
    }

    private String statements(int count, int depth, boolean taking) {
        StringBuilder out = new StringBuilder();
        for (int i = 0; i < count; i++) {
            out.append(statement(depth, taking));
        }
        return out.toString();
    }

    private String block(int depth, boolean taking) {
        return "{" + statements(random.nextInt(3), depth + 1, taking) + "}";
    }

    private String statement(int depth, boolean taking) {
        int choice = random.nextInt(depth < 5 ? 16 : 8);
        switch (choice) {
            case 0:
                return "!" + (char) ('A' + random.nextInt(kinds));
            case 1:
                return taking ? "^" : "!" + (char) ('A' + random.nextInt(kinds));
            case 2:
                return taking ? "^" : "+1";
            case 3:
                return ".";
            case 4:
                return "+" + random.nextInt(2);
            case 5:
                return "-" + random.nextInt(2);
            case 6:
            case 7:
                return "@" + (char) ('a' + random.nextInt(routines));
            case 8:
            case 9:
            case 10:
                return "?" + block(depth, taking) + block(depth, taking);
            case 11:
                return "*" + block(depth, taking);
            default:
                return taking(depth, taking);
        }
    }

    private String taking(int depth, boolean taking) {
        StringBuilder out = new StringBuilder("T").append(block(depth, taking));
        int takers = random.nextInt(4);
        for (int i = 0; i < takers; i++) {
            out.append((char) ('A' + random.nextInt(kinds))).append(block(depth, true));
        }
        if (takers == 0 || random.nextInt(2) == 0) {
            out.append('Z').append(block(depth, taking));
        }
        return out.toString();
    }
}

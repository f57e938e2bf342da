import java.util.ArrayDeque;
import java.util.ArrayList;
import java.util.HashMap;
import java.util.HashSet;
import java.util.List;
import java.util.Map;
import java.util.Set;

/**
 * RUNS gone through one by one, as the document tells them: a machine with a stack that tries every choice,
 * by rising numbers of STEPS, up to a bound. It shares nothing with the program and knows no tables.
 */
final class Model {
    /** One STATEMENT: its byte, what stands behind it, its BLOCKS; of a T also its TAKERS and its ENDING. */
    static final class Node {
        char op;
        int arg;
        int routine;
        List<List<Node>> blocks = new ArrayList<>();
        List<Integer> takerKinds = new ArrayList<>();
        List<Integer> takerPlaces = new ArrayList<>();
        List<List<Node>> takerBlocks = new ArrayList<>();
        List<Node> ending;
    }

    enum What { STATEMENTS, LOOP, TRY, TAKER, ENDING, CALL }

    /** One level of the stack; data is a KIND that was taken, or what waits behind an ENDING. */
    static final class Frame {
        final What what;
        final Object of;
        final int index;
        final int data;
        final Frame below;
        final int hash;

        Frame(What what, Object of, int index, int data, Frame below) {
            this.what = what;
            this.of = of;
            this.index = index;
            this.data = data;
            this.below = below;
            this.hash = ((what.ordinal() * 31 + System.identityHashCode(of)) * 31 + index) * 31 + data
                    + (below == null ? 0 : below.hash * 17);
        }

        @Override
        public int hashCode() {
            return hash;
        }

        @Override
        public boolean equals(Object other) {
            Frame a = this;
            Object o = other;
            while (a != o) {
                if (a == null || !(o instanceof Frame b) || a.hash != b.hash || a.what != b.what || a.of != b.of
                        || a.index != b.index || a.data != b.data) {
                    return false;
                }
                a = a.below;
                o = b.below;
            }
            return true;
        }
    }

    /** Signal: 0 goes on, 1 to 6 a refusal, 7 returns. */
    record State(Frame top, int signal, int open) {
    }

    private static final int GOES_ON = 0;
    private static final int RETURNS = 7;

    private final List<List<Node>> texts = new ArrayList<>();
    private final int[] parent;
    private String source;
    private int at;
    private int reading;

    /** What the RUNS of the ROUTINE asked have shown. */
    final Map<Integer, Integer> fewest = new HashMap<>();
    final Map<Integer, Integer> taken = new HashMap<>();
    int lost;
    /** All RUNS of this many STEPS have been seen. */
    int seenSteps;
    /** There are no RUNS but those that have been seen. */
    boolean seenAll;

    private int asked;
    private final ArrayDeque<State> now = new ArrayDeque<>();
    private final ArrayDeque<State> next = new ArrayDeque<>();
    private final Set<State> seen = new HashSet<>();

    Model(String[] told, int[] parent) {
        this.parent = parent;
        for (int r = 0; r < told.length; r++) {
            source = told[r];
            at = 0;
            reading = r;
            texts.add(statements());
        }
    }

    private List<Node> statements() {
        List<Node> list = new ArrayList<>();
        while (at < source.length() && source.charAt(at) != '}') {
            Node node = new Node();
            node.routine = reading;
            node.op = source.charAt(at++);
            if ("!@+-".indexOf(node.op) >= 0) {
                node.arg = "ABCDEFabcdefgh01".indexOf(source.charAt(at++));
                node.arg -= node.op == '!' ? 0 : node.op == '@' ? 6 : 14;
            }
            if ("?*T".indexOf(node.op) >= 0) {
                node.blocks.add(block());
            }
            if (node.op == '?') {
                node.blocks.add(block());
            }
            while (node.op == 'T' && at < source.length() && "ABCDEF".indexOf(source.charAt(at)) >= 0) {
                node.takerPlaces.add(at);
                node.takerKinds.add(source.charAt(at++) - 'A');
                node.takerBlocks.add(block());
            }
            if (node.op == 'T' && at < source.length() && source.charAt(at) == 'Z') {
                at++;
                node.ending = block();
            }
            list.add(node);
        }
        return list;
    }

    private List<Node> block() {
        at++;
        List<Node> list = statements();
        at++;
        return list;
    }

    private boolean isOf(int k, int of) {
        for (int up = k; up >= 0; up = parent[up]) {
            if (up == of) {
                return true;
            }
        }
        return false;
    }

    /** Key of fewest: 4 times the EXIT and what is open; key of taken: the place. */
    void ask(int r, int s, int mostSteps, int mostStates) {
        fewest.clear();
        taken.clear();
        lost = 0;
        asked = r;
        now.clear();
        next.clear();
        seen.clear();
        seenSteps = -1;
        seenAll = false;
        next.add(new State(new Frame(What.STATEMENTS, texts.get(r), 0, -1, null), GOES_ON, s));
        for (int steps = 0; steps <= mostSteps && !next.isEmpty(); steps++) {
            now.addAll(next);
            next.clear();
            while (!now.isEmpty()) {
                State state = now.poll();
                if (seen.size() > mostStates) {
                    return;
                }
                if (seen.add(state)) {
                    go(state, steps);
                }
            }
            seenSteps = steps;
        }
        seenAll = next.isEmpty();
    }

    private void go(State state, int steps) {
        Frame top = state.top;
        if (top == null) {
            int exit = state.signal == RETURNS ? 0 : state.signal;
            fewest.putIfAbsent(4 * exit + state.open, steps);
            return;
        }
        switch (top.what) {
            case STATEMENTS -> statement(state, top);
            case LOOP -> {
                now.add(new State(top.below, state.signal, state.open));
                if (state.signal == GOES_ON) {
                    Node node = (Node) top.of;
                    now.add(new State(start(node.blocks.get(0), top.data, top), GOES_ON, state.open));
                }
            }
            case TRY -> takeOrGoOn(state, top);
            case TAKER -> endOrGoOn((Node) top.of, state, top);
            case ENDING -> {
                boolean ended = state.signal == GOES_ON;
                if (!ended && top.data >= 1 && top.data <= 6 && ((Node) top.of).routine == asked) {
                    lost |= 1 << top.data - 1;
                }
                now.add(new State(top.below, ended ? top.data : state.signal, state.open));
            }
            case CALL -> now.add(new State(top.below, state.signal == RETURNS ? GOES_ON : state.signal, state.open));
        }
    }

    private static Frame start(List<Node> block, int kind, Frame below) {
        return new Frame(What.STATEMENTS, block, 0, kind, below);
    }

    private void takeOrGoOn(State state, Frame top) {
        Node node = (Node) top.of;
        if (state.signal >= 1 && state.signal <= 6) {
            int kind = state.signal - 1;
            for (int i = 0; i < node.takerKinds.size(); i++) {
                if (isOf(kind, node.takerKinds.get(i))) {
                    if (node.routine == asked) {
                        taken.merge(node.takerPlaces.get(i), 1 << kind, (a, b) -> a | b);
                    }
                    Frame taker = new Frame(What.TAKER, node, 0, top.data, top.below);
                    now.add(new State(start(node.takerBlocks.get(i), kind, taker), GOES_ON, state.open));
                    return;
                }
            }
        }
        endOrGoOn(node, state, top);
    }

    private void endOrGoOn(Node node, State state, Frame top) {
        if (node.ending == null) {
            now.add(new State(top.below, state.signal, state.open));
            return;
        }
        Frame ending = new Frame(What.ENDING, node, 0, state.signal, top.below);
        now.add(new State(start(node.ending, top.data, ending), GOES_ON, state.open));
    }

    private void statement(State state, Frame top) {
        List<?> list = (List<?>) top.of;
        if (state.signal != GOES_ON || top.index == list.size()) {
            now.add(new State(top.below, state.signal, state.open));
            return;
        }
        Node node = (Node) list.get(top.index);
        Frame rest = new Frame(What.STATEMENTS, list, top.index + 1, top.data, top.below);
        int open = state.open;
        switch (node.op) {
            case '!' -> next.add(new State(rest, 1 + node.arg, open));
            case '^' -> next.add(new State(rest, 1 + top.data, open));
            case '.' -> next.add(new State(rest, RETURNS, open));
            case '+' -> next.add(new State(rest, GOES_ON, open | 1 << node.arg));
            case '-' -> next.add(new State(rest, GOES_ON, open & ~(1 << node.arg)));
            case '@' -> {
                Frame call = new Frame(What.CALL, this, node.arg, 0, rest);
                next.add(new State(start(texts.get(node.arg), -1, call), GOES_ON, open));
            }
            case '?' -> {
                now.add(new State(start(node.blocks.get(0), top.data, rest), GOES_ON, open));
                now.add(new State(start(node.blocks.get(1), top.data, rest), GOES_ON, open));
            }
            case '*' -> now.add(new State(new Frame(What.LOOP, node, 0, top.data, rest), GOES_ON, open));
            default -> {
                Frame guard = new Frame(What.TRY, node, 0, top.data, rest);
                now.add(new State(start(node.blocks.get(0), top.data, guard), GOES_ON, open));
            }
        }
    }
}

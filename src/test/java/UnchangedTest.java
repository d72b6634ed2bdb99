import java.util.ArrayList;
import java.util.Arrays;
import java.util.List;

/**
 * What changes nothing: a call that throws, a call of place or move that answers NONE, and every call that only asks.
 * In several states, all such calls that can be made of numbers at the edges are made, and all that can be asked
 * afterwards must be answered as by an object to which none of them was made.
 */
public final class UnchangedTest {
    private static final int MOST_CALLS = 512;
    // As many as the limit of calls leaves beside the longest state and what is asked.
    private static final int AT_ONCE = 40;
    private static final List<String> ASKS =
            List.of("now", "ofNode", "ofLink", "load", "told", "at", "way", "least", "leastAnew", "freeing");

    private static final String[] STATES = {
        "now=0",
        Runs.FULL + "part 2 63=0; part 3 63=1; part 4 63=2; line 0 1 5=0; line 2 1 6=1; line 0 2 7=2",
        // One of each manner, of which one ended; a link that failed; a draft that cannot be placed.
        Runs.RING + "link 0 2 9=4; part 5 3=0; part 6 4=1; line 0 1 4=0; place 0 50=0; part 1 1=0; part 1 4=1; part 2 2=2; "
                + "line 0 1 11=0; place 1 60=1; part 2 8=0; part 2 1=1; line 0 1 1=0; place 2 70=2; part 3 1=0; place 0 1=3; "
                + "pass 1=1; fail 0 true=1; part 1 1=0; part 20 2=1; line 1 0 20=0",
        Runs.TWELVE + "end 3=nothing; pass 2=2; part 4 1=0; part 1 2=1; line 0 1 7=0",
        // The draft can be placed, but not SAFE: its first line gets a second way, then its second line has none.
        Runs.RING + "link 0 2 10=4; part 1 3=0; part 1 6=1; line 0 1 2=0; place 0 9=0; part 1 1=0; part 1 2=1; part 1 4=2; "
                + "line 0 1 4=0; line 1 2 7=1",
        // It cannot be placed SPLIT: its first line is split, then its second line has no room.
        Runs.RING + "part 1 1=0; part 1 2=1; part 1 4=2; line 0 1 13=0; line 1 2 10=1; line 2 0 1=2",
        // The part at node 1 cannot be moved to node 3: its first line gets a way there, then its second line has none.
        Runs.RING + "part 1 1=0; part 1 4=1; part 2 10=2; line 0 2 6=0; line 2 1 6=1; place 0 9=0; part 1 4=0; part 1 8=1; "
                + "line 0 1 5=0; place 1 9=1; fail 1 true=1; part 19 2=0",
        // All requests have lines, and links are full; the draft gets in by a move, or not at all.
        Runs.PAIR + "node 20=2; link 1 2 99=1; link 2 0 9=2; part 1 1=0; part 1 6=1; line 0 1 20=0; place 0 9=0; part 1 1=0; "
                + "part 1 6=1; line 0 1 20=0; place 1 9=1; part 5 6=0; part 1 1=1; line 1 0 10=0; place 0 9=2; part 1 2=0; "
                + "part 20 4=1; line 0 1 9=0; fail 2 true=0",
    };

    private static final Runs RUNS = new Runs();

    public static void main(String[] args) {
        int made = 0;
        for (String state : STATES) {
            RUNS.run("to a state", state);
            List<Object[]> calls = callsThatChangeNothing(state);
            made += calls.size();
            for (int from = 0; from < calls.size(); from += AT_ONCE) {
                hold(state, calls.subList(from, Math.min(calls.size(), from + AT_ONCE)));
            }
        }
        System.out.println(made + " calls that change nothing were made");
        RUNS.end();
    }

    private static void hold(String state, List<Object[]> calls) {
        if (!answersAfter(state, calls).equals(answersAfter(state, List.of()))) {
            for (Object[] call : calls) {
                List<String> due = answersAfter(state, List.of());
                if (!answersAfter(state, List.<Object[]>of(call)).equals(due)) {
                    RUNS.fault(Arrays.toString(call) + " changes something after " + state);
                }
            }
        }
    }

    // ---- what may be called

    private static List<Object[]> callsThatChangeNothing(String state) {
        List<Object[]> found = new ArrayList<>();
        Calls model = inState(state, new MeshModel());
        for (Object[] call : allCalls()) {
            String due = answerOf(model, call);
            boolean isNone = due.equals("-1") && (call[0].equals("place") || call[0].equals("move"));
            if (ASKS.contains(call[0]) || due.startsWith("throws") || isNone) {
                found.add(call);
                String got = answerOf(inState(state, new MeshLodger()), call);
                if (!got.equals(due)) {
                    RUNS.fault(Arrays.toString(call) + " answered " + got + ", due is " + due + " after " + state);
                }
            } else {
                model = inState(state, new MeshModel());
            }
        }
        return found;
    }

    private static List<Object[]> allCalls() {
        int low = Integer.MIN_VALUE;
        int high = Integer.MAX_VALUE;
        Object[] rooms = {low, -1, 0, 1, 99, 100, high};
        Object[] nodes = {low, -1, 0, 1, 2, 3, 4, 5, 6, 32, high};
        Object[] links = {low, -2, -1, 0, 1, 2, 3, 4, 5, 8, 9, 32, high};
        Object[] needs = {low, -1, 0, 1, 20, 21, high};
        Object[] parts = {low, -1, 0, 1, 2, 3, high};
        Object[] requests = {low, -1, 0, 1, 2, 3, 4, 11, 12, 13, high};
        Object[] whats = {low, -1, 0, 1, 2, 3, 4, 7, 8, high};
        List<Object[]> all = new ArrayList<>();
        add(all, "node", rooms);
        add(all, "link", nodes, nodes, rooms);
        add(all, "fail", links, new Object[] {true, false});
        add(all, "part", needs, new Object[] {low, -1, 0, 1, 63, 64, high});
        add(all, "line", parts, parts, needs);
        add(all, "place", new Object[] {low, -1, 0, 1, 2, 3, high}, new Object[] {low, -1, 0, 1, 100, 101, high});
        add(all, "end", requests);
        add(all, "move", requests, parts, nodes);
        add(all, "pass", new Object[] {low, -1, 0, 101, high});
        add(all, "now");
        add(all, "ofNode", nodes, whats);
        add(all, "ofLink", links, whats);
        add(all, "load", links, links);
        add(all, "told", requests, whats);
        add(all, "at", requests, parts);
        add(all, "way", requests, parts, whats);
        add(all, "least");
        add(all, "leastAnew");
        add(all, "freeing");
        return all;
    }

    private static void add(List<Object[]> all, String name, Object[]... pools) {
        List<Object[]> calls = new ArrayList<>();
        calls.add(new Object[] {name});
        for (Object[] pool : pools) {
            List<Object[]> longer = new ArrayList<>();
            for (Object[] call : calls) {
                for (Object value : pool) {
                    Object[] more = Arrays.copyOf(call, call.length + 1);
                    more[call.length] = value;
                    longer.add(more);
                }
            }
            calls = longer;
        }
        all.addAll(calls);
    }

    // ---- what is answered then

    private static Calls inState(String state, Object target) {
        Calls calls = new Calls(target);
        Runs.play(state, calls);
        return calls;
    }

    private static String answerOf(Calls target, Object... call) {
        return target.answer((String) call[0], Arrays.copyOfRange(call, 1, call.length));
    }

    private static List<String> answersAfter(String state, List<Object[]> calls) {
        Calls target = inState(state, new MeshLodger());
        for (Object[] call : calls) {
            answerOf(target, call);
        }
        List<Object[]> asked = whatIsAsked();
        if (state.split(";").length + calls.size() + asked.size() > MOST_CALLS) {
            throw new IllegalStateException("more calls than are promised");
        }
        List<String> answers = new ArrayList<>();
        for (Object[] call : asked) {
            answers.add(answerOf(target, call));
        }
        return answers;
    }

    private static List<Object[]> whatIsAsked() {
        Object[] nodes = {0, 1, 2, 3, 4, 5};
        Object[] links = {0, 1, 2, 3, 4, 5, 6, 7, 8};
        Object[] requests = {0, 1, 2, 3, 4, 5, 6, 7, 8, 9, 10, 11};
        Object[] three = {0, 1, 2};
        List<Object[]> asked = new ArrayList<>();
        add(asked, "now");
        add(asked, "ofNode", nodes, new Object[] {0, 1});
        add(asked, "ofLink", links, new Object[] {0, 1, 2, 3});
        add(asked, "load", links, links);
        add(asked, "told", requests, new Object[] {0, 1, 2, 3, 4, 5, 6, 7});
        add(asked, "at", requests, three);
        add(asked, "way", requests, three, three);
        add(asked, "least");
        add(asked, "freeing");
        // What the draft has: these are answered by it, and tell whether it stayed.
        add(asked, "line", new Object[] {0}, new Object[] {1, 2}, new Object[] {1});
        add(asked, "line", new Object[] {2}, new Object[] {1}, new Object[] {1});
        add(asked, "least");
        add(asked, "part", new Object[] {1}, new Object[] {63});
        add(asked, "place", new Object[] {1}, new Object[] {5});
        add(asked, "clear");
        add(asked, "node", new Object[] {9});
        add(asked, "link", new Object[] {1}, new Object[] {3}, new Object[] {9});
        add(asked, "pass", new Object[] {60});
        add(asked, "ofNode", new Object[] {0, 1}, new Object[] {0});
        return asked;
    }
}

/**
 * Runs of calls, each run on a new object, with the answers worked out by hand from the document.
 * A run is written as calls with "; " between them: the name, the arguments, "=", the answer that is due.
 * Answers are numbers, "nothing" (of end), index, argument or state (the exception). The model is held to them too.
 */
final class Runs {
    /** Nodes 0 to 3 with room 20, in a ring: links 0 (0-1), 1 (1-2), 2 (2-3), 3 (3-0), all with room 10. */
    static final String RING = "node 20=0; node 20=1; node 20=2; node 20=3; "
            + "link 0 1 10=0; link 1 2 10=1; link 2 3 10=2; link 3 0 10=3; ";

    /** A ring whose order of ways differs by the end that they are read from: 0 (0-1), 1 (2-3), 2 (1-2), 3 (3-0). */
    static final String TWISTED = "node 20=0; node 20=1; node 20=2; node 20=3; "
            + "link 0 1 10=0; link 2 3 10=1; link 1 2 10=2; link 3 0 10=3; ";

    /** Two nodes with room 99 and a link with room 50. */
    static final String PAIR = "node 99=0; node 99=1; link 0 1 50=0; ";

    /** All the nodes that there can be, with room 20. */
    static final String SIX = "node 20=0; node 20=1; node 20=2; node 20=3; node 20=4; node 20=5; ";

    /** All the nodes and all the links that there can be: a ring of six, and links from node 0 across it. */
    static final String FULL = SIX + "link 0 1 10=0; link 1 2 10=1; link 2 3 10=2; link 3 4 10=3; link 4 5 10=4; "
            + "link 5 0 10=5; link 0 2 10=6; link 0 3 10=7; link 0 4 10=8; ";

    /** A draft of a part that must be at node 0 and one that must be at node 1, without a line. */
    static final String ENDS_0_1 = "part 1 1=0; part 1 2=1; ";

    /** The same for the nodes 0 and 2. */
    static final String ENDS_0_2 = "part 1 1=0; part 1 4=1; ";

    /** A node, and all the requests that there can be, for 50 ticks there, each of a part that needs 1. */
    static final String TWELVE = twelve();

    private int runs = 0;
    private int wrong = 0;

    void run(String name, String... calls) {
        runs++;
        String all = String.join("", calls);
        answers(name, all, new Calls(new MeshLodger()), "the class");
        answers(name, all, new Calls(new MeshModel()), "the model");
    }

    void fault(String what) {
        wrong++;
        System.out.println(what);
    }

    /** Says how it went, and ends the test. */
    void end() {
        System.out.println(wrong == 0 ? runs + " written runs are as due" : wrong + " answers are not as due");
        System.exit(wrong == 0 ? 0 : 1);
    }

    /** Makes the calls of a run, whatever is due to them. */
    static void play(String calls, Calls target) {
        for (String call : calls.split("; *")) {
            target.answer(nameOf(call), argumentsOf(call));
        }
    }

    private void answers(String name, String calls, Calls target, String who) {
        for (String call : calls.split("; *")) {
            String due = written(call.split(" *= *")[1]);
            String got = target.answer(nameOf(call), argumentsOf(call));
            if (!got.equals(due)) {
                fault(name + ": " + who + " answered " + got + " to " + call);
            }
        }
    }

    private static String nameOf(String call) {
        return call.trim().split("[ =]")[0];
    }

    private static Object[] argumentsOf(String call) {
        String[] words = call.split(" *= *")[0].trim().split(" +");
        Object[] arguments = new Object[words.length - 1];
        for (int i = 1; i < words.length; i++) {
            boolean truth = words[i].equals("true") || words[i].equals("false");
            arguments[i - 1] = truth ? (Object) Boolean.valueOf(words[i]) : (Object) Integer.valueOf(words[i]);
        }
        return arguments;
    }

    private static String written(String due) {
        switch (due) {
            case "index": return "throws.IndexOutOfBoundsException";
            case "argument": return "throws.IllegalArgumentException";
            case "state": return "throws.IllegalStateException";
            default: return due;
        }
    }

    private static String twelve() {
        StringBuilder calls = new StringBuilder("node 99=0; ");
        for (int request = 0; request < 12; request++) {
            calls.append("part 1 1=0; place 0 50=").append(request).append("; ");
        }
        return calls.toString();
    }
}

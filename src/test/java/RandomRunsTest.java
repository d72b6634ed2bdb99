import java.util.ArrayList;
import java.util.List;
import java.util.Random;

/** Long runs of calls, made from fixed seeds, on the class and on the model: every answer must be the same. */
public final class RandomRunsTest {
    private static final int MOST_CALLS = 512;

    private final Random random;
    private final Calls lodger = new Calls(new MeshLodger());
    private final Calls model = new Calls(new MeshModel());
    private final List<String> calls = new ArrayList<>();
    private String fault = "";
    private final int nodeRoom;
    private final int linkRoom;
    private final int partNeed;
    private final int lineNeed;
    private final int wrongOf;
    private int nodes;
    private int links;
    private int parts;
    private int requests;

    private RandomRunsTest(long seed) {
        random = new Random(seed);
        nodeRoom = pick(10, 20, 30, 40, 99);
        linkRoom = pick(8, 14, 20, 30, 99);
        partNeed = pick(4, 9, 14, 20);
        lineNeed = pick(4, 9, 14, 20);
        wrongOf = pick(5, 20, 60, 1000);
    }

    public static void main(String[] args) {
        int runs = args.length > 0 ? Integer.parseInt(args[0]) : 4000;
        long first = args.length > 1 ? Long.parseLong(args[1]) : 0;
        int wrong = 0;
        for (long seed = first; seed < first + runs && wrong < 5; seed++) {
            RandomRunsTest run = new RandomRunsTest(seed);
            run.go();
            if (!run.fault.isEmpty()) {
                wrong++;
                System.out.println("seed " + seed + ": " + run.fault + "\n  after " + run.calls);
            }
        }
        System.out.println(wrong == 0 ? runs + " random runs are as the model has them" : wrong + " runs differ");
        System.exit(wrong == 0 ? 0 : 1);
    }

    private int pick(int... choices) {
        return choices[random.nextInt(choices.length)];
    }

    private int from(int low, int high) {
        return low + random.nextInt(Math.max(1, high - low + 1));
    }

    /** A number of the range, at times one that may be beside it or far from it. */
    private int number(int low, int high) {
        if (random.nextInt(wrongOf) != 0) {
            return from(low, high);
        }
        return pick(low - 1, low, high, high + 1, from(low - 3, high + 3), Integer.MIN_VALUE, Integer.MAX_VALUE);
    }

    private String same(String name, Object... arguments) {
        if (calls.size() >= MOST_CALLS || !fault.isEmpty()) {
            return "";
        }
        String due = model.answer(name, arguments);
        String got = lodger.answer(name, arguments);
        String call = Calls.written(name, arguments);
        calls.add(call + "=" + due);
        if (!due.equals(got)) {
            fault = call + " answered " + got + ", due is " + due;
        }
        return due;
    }

    private void go() {
        layGround();
        int rounds = from(5, 45);
        for (int round = 0; round < rounds; round++) {
            change();
            for (int asks = random.nextInt(3); asks > 0; asks--) {
                ask();
            }
        }
        askAll();
    }

    private void layGround() {
        int wanted = pick(1, 3, 4, 4, 5, 5, 5, 6, 6, 6);
        for (int i = 0; i < wanted; i++) {
            addNode();
        }
        int tries = pick(0, 6, 12, 20, 25, 30);
        for (int i = 0; i < tries; i++) {
            addLink();
        }
    }

    private boolean isDone(String answer) {
        return !answer.isEmpty() && !answer.startsWith("throws") && !answer.equals("-1");
    }

    private void addNode() {
        nodes += isDone(same("node", number(nodeRoom / 2, nodeRoom))) ? 1 : 0;
    }

    private void addLink() {
        int node = number(0, nodes - 1);
        int other = number(0, nodes - 1);
        if (node != other || random.nextInt(10) == 0) {
            links += isDone(same("link", node, other, number(Math.max(1, linkRoom / 3), linkRoom))) ? 1 : 0;
        }
    }

    private void change() {
        switch (random.nextInt(20)) {
            case 0: addNode(); break;
            case 1: addLink(); break;
            case 2: same("fail", number(0, links - 1), true); break;
            case 3: same("fail", number(0, links - 1), random.nextInt(3) == 0); break;
            case 4: same("pass", random.nextInt(8) == 0 ? number(1, 100) : number(1, 6)); break;
            case 5: same("end", number(0, requests - 1)); break;
            case 6:
            case 7:
            case 8:
            case 9: same("move", number(0, requests - 1), number(0, random.nextInt(3)), number(0, nodes - 1)); break;
            case 10: addPart(); break;
            case 11: addLine(number(0, parts - 1), number(0, parts - 1)); break;
            case 12: clear(); break;
            default: drawUpAndPlace();
        }
    }

    private void clear() {
        same("clear");
        parts = 0;
    }

    private void addPart() {
        int nodesOf = random.nextInt(3) == 0 ? number(1, 63) : 63;
        parts += isDone(same("part", number(1, partNeed), nodesOf)) ? 1 : 0;
    }

    private void addLine(int part, int other) {
        same("line", part, other, number(1, lineNeed));
    }

    private void drawUpAndPlace() {
        if (parts > 0 && random.nextInt(4) != 0) {
            clear();
        }
        int wanted = pick(1, 2, 2, 2, 3, 3, 3);
        while (parts < wanted && calls.size() < MOST_CALLS) {
            addPart();
        }
        int turn = random.nextInt(3);
        int lines = pick(0, 1, 1, 2, 3, 3);
        for (int i = 0; i < lines && parts > 1; i++) {
            boolean inOrder = random.nextBoolean();
            int one = (turn + i) % parts;
            int other = (turn + i + 1) % parts;
            addLine(inOrder ? one : other, inOrder ? other : one);
        }
        same(pick(0, 1) == 0 ? "least" : "leastAnew");
        if (!isPlaced() && random.nextInt(4) != 0) {
            freeAndPlace();
        }
    }

    private void freeAndPlace() {
        String move = same("freeing");
        if (isDone(move)) {
            int digits = Integer.parseInt(move);
            same("move", digits / 100, digits / 10 % 10, digits % 10);
            isPlaced();
        }
    }

    private boolean isPlaced() {
        int ticks = random.nextInt(4) == 0 ? number(1, 100) : number(1, 60);
        boolean placed = isDone(same("place", number(0, 2), ticks));
        requests += placed ? 1 : 0;
        parts = placed ? 0 : parts;
        return placed;
    }

    private void ask() {
        switch (random.nextInt(10)) {
            case 0: same("now"); break;
            case 1: same("ofNode", number(0, nodes - 1), number(0, 1)); break;
            case 2: same("ofLink", number(0, links - 1), number(0, 3)); break;
            case 3: same("load", number(0, links - 1), number(-1, links - 1)); break;
            case 4: same("told", number(0, requests - 1), number(0, 7)); break;
            case 5: same("at", number(0, requests - 1), number(0, random.nextInt(3))); break;
            case 6: same("way", number(0, requests - 1), number(0, random.nextInt(3)), number(0, 2)); break;
            case 7: same("least"); break;
            case 8: same("leastAnew"); break;
            default: same("freeing");
        }
    }

    private void askAll() {
        same("now");
        for (int request = 0; request < requests; request++) {
            askRequest(request);
        }
        for (int node = 0; node < nodes; node++) {
            within(valueOf(same("ofNode", node, 0)), 99, "node " + node);
            same("ofNode", node, 1);
        }
        for (int link = 0; link < links; link++) {
            askLink(link);
        }
    }

    private void askLink(int link) {
        int room = 0;
        for (int what = 0; what < 3; what++) {
            int answer = valueOf(same("ofLink", link, what));
            within(answer, 99, "link " + link);
            room += answer;
        }
        same("ofLink", link, 3);
        for (int failed = -1; failed < links; failed++) {
            within(valueOf(same("load", link, failed)), room, "link " + link + " behind " + failed);
        }
    }

    /** 0 if it was not asked any more, or threw. */
    private static int valueOf(String answer) {
        return answer.isEmpty() || answer.startsWith("throws") ? 0 : Integer.parseInt(answer);
    }

    // Nothing is over its room, in use or behind any single failure.
    private void within(int answer, int most, String what) {
        if (fault.isEmpty() && (answer < 0 || answer > most)) {
            fault = what + " is over its room: " + answer;
        }
    }

    private void askRequest(int request) {
        for (int what = 0; what < 8; what++) {
            same("told", request, what);
        }
        int partsOf = Integer.parseInt("0" + model.answer("told", request, 3));
        int linesOf = Integer.parseInt("0" + model.answer("told", request, 4));
        for (int part = 0; part < partsOf; part++) {
            same("at", request, part);
        }
        for (int line = 0; line < linesOf; line++) {
            same("way", request, line, 0);
            same("way", request, line, 1);
            same("way", request, line, 2);
        }
    }
}

/** A placer of small networks on a larger one. The document's promises are numbered at the methods. */
public final class MeshLodger {
    public static final int NONE = -1;
    public static final int PLAIN = 0, SPLIT = 1, SAFE = 2;

    private static final int NODES = 6;
    private static final int LINKS = 9;
    private static final int PARTS = 3;
    private static final int LINES = 3;
    private static final int REQUESTS = 12;
    private static final int MOST_ROOM = 99;
    private static final int MOST_NEED = 20;
    private static final int MOST_TICKS = 100;
    private static final int EVERY_NODE = (1 << NODES) - 1;
    // No net of 6 nodes and 9 links has more ways than this between two of its nodes.
    private static final int WAYS = 15;

    private final Ground ground = new Ground();
    private final Books books = new Books(ground);
    private final Search search = new Search(ground, books);
    private final Placer placer = new Placer(ground, books, search);
    private final Mover mover = new Mover(ground, books);
    // The one behind the last request that was placed is the draft: so a draft is placed without a copy.
    private final Request[] requests = new Request[REQUESTS + 1];
    private int placed;
    private int tick;

    /** Promise 1. */
    public MeshLodger() {
        for (int number = 0; number < requests.length; number++) {
            requests[number] = new Request();
        }
    }

    // ---- the ground

    /** Promise 2. */
    public int node(int room) throws IllegalArgumentException, IllegalStateException {
        if (room < 1 || room > MOST_ROOM) {
            throw new IllegalArgumentException("room is out of range");
        }
        if (ground.nodes >= NODES) {
            throw new IllegalStateException("there are 6 nodes");
        }
        return ground.addNode(room);
    }

    /** Promise 3. */
    public int link(int node, int other, int room)
            throws IndexOutOfBoundsException, IllegalArgumentException, IllegalStateException {
        if (!ground.hasNode(node) || !ground.hasNode(other)) {
            throw new IndexOutOfBoundsException("no such node");
        }
        if (node == other || room < 1 || room > MOST_ROOM) {
            throw new IllegalArgumentException("both nodes are the same, or room is out of range");
        }
        if (ground.links >= LINKS || ground.areLinked(node, other)) {
            throw new IllegalStateException("there are 9 links, or there is one for both");
        }
        return ground.addLink(node, other, room);
    }

    /** Promise 4. */
    public int fail(int link, boolean fails) throws IndexOutOfBoundsException {
        if (!ground.hasLink(link)) {
            throw new IndexOutOfBoundsException("no such link");
        }
        ground.setFailed(link, fails);
        int stopped = 0;
        for (int number = 0; number < placed; number++) {
            Request request = requests[number];
            if (!request.ended && request.stoppedLines(ground.failed) > 0) {
                stopped++;
            }
        }
        return stopped;
    }

    // ---- requests

    /** Promise 5. */
    public int part(int need, int nodes) throws IllegalArgumentException, IllegalStateException {
        if (need < 1 || need > MOST_NEED || nodes < 1 || nodes > EVERY_NODE) {
            throw new IllegalArgumentException("need or nodes is out of range");
        }
        if (draft().parts >= PARTS) {
            throw new IllegalStateException("the draft has 3 parts");
        }
        return draft().addPart(need, nodes);
    }

    /** Promise 6. */
    public int line(int part, int other, int need)
            throws IndexOutOfBoundsException, IllegalArgumentException, IllegalStateException {
        if (!draft().hasPart(part) || !draft().hasPart(other)) {
            throw new IndexOutOfBoundsException("no such part");
        }
        if (part == other || need < 1 || need > MOST_NEED) {
            throw new IllegalArgumentException("both parts are the same, or need is out of range");
        }
        if (draft().lines >= LINES || draft().hasLineFor(part, other)) {
            throw new IllegalStateException("there is a line for both");
        }
        return draft().addLine(part, other, need);
    }

    /** Promise 7. */
    public int clear() {
        return draft().empty();
    }

    /** Promise 8. */
    public int place(int manner, int ticks) throws IllegalArgumentException, IllegalStateException {
        if (manner < PLAIN || manner > SAFE || ticks < 1 || ticks > MOST_TICKS) {
            throw new IllegalArgumentException("manner or ticks is out of range");
        }
        if (placed >= REQUESTS || draft().parts == 0) {
            throw new IllegalStateException("there are 12 requests, or the draft has no part");
        }
        if (!placer.lodge(draft(), manner)) {
            return NONE;
        }
        draft().manner = manner;
        draft().time = tick + ticks;
        placed++;
        return placed - 1;
    }

    /** Promise 9. */
    public void end(int request) throws IndexOutOfBoundsException, IllegalStateException {
        if (!isPlaced(request)) {
            throw new IndexOutOfBoundsException("no such request");
        }
        if (requests[request].ended) {
            throw new IllegalStateException("the request has ended");
        }
        dismiss(requests[request]);
    }

    /** Promise 10. */
    public int move(int request, int part, int node)
            throws IndexOutOfBoundsException, IllegalArgumentException, IllegalStateException {
        if (!isPlaced(request) || !requests[request].hasPart(part) || !ground.hasNode(node)) {
            throw new IndexOutOfBoundsException("no such request, part of it, or node");
        }
        Request asked = requests[request];
        if (asked.nodeOf(part) == node) {
            throw new IllegalArgumentException("the part is there already");
        }
        if (!asked.isMovable()) {
            throw new IllegalStateException("the request has ended, is safe, or has a split line");
        }
        return mover.shift(asked, part, node) ? asked.linksOfPart(part) : NONE;
    }

    /** Promise 11. */
    public int pass(int ticks) throws IllegalArgumentException {
        if (ticks < 1 || ticks > MOST_TICKS) {
            throw new IllegalArgumentException("ticks is out of range");
        }
        tick += ticks;
        for (int number = 0; number < placed; number++) {
            Request request = requests[number];
            if (!request.ended && request.time <= tick) {
                dismiss(request);
            }
        }
        return tick;
    }

    // ---- what there is; nothing from here on changes anything

    /** Promise 12. */
    public int now() {
        return tick;
    }

    /** Promise 13. */
    public int ofNode(int node, int what) throws IndexOutOfBoundsException, IllegalArgumentException {
        if (!ground.hasNode(node)) {
            throw new IndexOutOfBoundsException("no such node");
        }
        if (what < 0 || what > 1) {
            throw new IllegalArgumentException("what is out of range");
        }
        return what == 0 ? books.leftAtNode(node) : books.nodeParts[node];
    }

    /** Promise 14. */
    public int ofLink(int link, int what) throws IndexOutOfBoundsException, IllegalArgumentException {
        if (!ground.hasLink(link)) {
            throw new IndexOutOfBoundsException("no such link");
        }
        if (what < 0 || what > 3) {
            throw new IllegalArgumentException("what is out of range");
        }
        switch (what) {
            case 0: return books.linkNeeds[link];
            case 1: return books.reserved[link];
            case 2: return books.leftOnLink(link);
            default: return ground.failed >> link & 1;
        }
    }

    /** Promise 15. */
    public int load(int link, int failed) throws IndexOutOfBoundsException, IllegalArgumentException {
        if (!ground.hasLink(link) || failed != NONE && !ground.hasLink(failed)) {
            throw new IndexOutOfBoundsException("no such link");
        }
        if (link == failed) {
            throw new IllegalArgumentException("both links are the same");
        }
        int gone = failed == NONE ? 0 : 1 << failed;
        int sum = 0;
        for (int number = 0; number < placed; number++) {
            if (!requests[number].ended) {
                sum += requests[number].loadOn(link, gone);
            }
        }
        return sum;
    }

    /** Promise 16. */
    public int told(int request, int what) throws IndexOutOfBoundsException, IllegalArgumentException {
        if (!isPlaced(request)) {
            throw new IndexOutOfBoundsException("no such request");
        }
        if (what < 0 || what > 7) {
            throw new IllegalArgumentException("what is out of range");
        }
        Request asked = requests[request];
        switch (what) {
            case 0: return asked.ended ? 1 : 0;
            case 1: return asked.manner;
            case 2: return asked.time;
            case 3: return asked.parts;
            case 4: return asked.lines;
            case 5: return asked.stoppedLines(ground.failed);
            case 6: return asked.linesOnSecondWay(ground.failed);
            default: return asked.cost();
        }
    }

    /** Promise 17. */
    public int at(int request, int part) throws IndexOutOfBoundsException {
        if (!isPlaced(request) || !requests[request].hasPart(part)) {
            throw new IndexOutOfBoundsException("no such request, or part of it");
        }
        return requests[request].nodeOf(part);
    }

    /** Promise 18. */
    public int way(int request, int line, int which) throws IndexOutOfBoundsException, IllegalArgumentException {
        if (!isPlaced(request) || !requests[request].hasLine(line)) {
            throw new IndexOutOfBoundsException("no such request, or line of it");
        }
        if (which < 0 || which > 2) {
            throw new IllegalArgumentException("which is out of range");
        }
        Request asked = requests[request];
        switch (which) {
            case 0: return asked.ways[line];
            case 1: return asked.otherWays[line];
            default: return asked.secondWays[line];
        }
    }

    /** Promise 19. */
    public int least() {
        return draft().parts == 0 ? NONE : search.run(draft(), Search.CUT);
    }

    /** Promise 20. */
    public int leastAnew() {
        return draft().parts == 0 ? NONE : search.run(draft(), Search.WHOLE);
    }

    /** Promise 21. */
    public int freeing() {
        if (draft().parts == 0 || search.run(draft(), Search.FIRST) != NONE) {
            return NONE;
        }
        for (int need = 1; need <= MOST_NEED; need++) {
            for (int number = 0; number < placed; number++) {
                for (int part = 0; part < requests[number].parts; part++) {
                    int node = freeingNode(requests[number], part, need);
                    if (node != NONE) {
                        return 100 * number + 10 * part + node;
                    }
                }
            }
        }
        return NONE;
    }

    private int freeingNode(Request request, int part, int need) {
        if (request.partNeeds[part] != need || !request.isMovable()) {
            return NONE;
        }
        int home = request.nodeOf(part);
        for (int node = 0; node < ground.nodes; node++) {
            if (node != home && mover.shift(request, part, node)) {
                boolean frees = search.run(draft(), Search.FIRST) != NONE;
                mover.takeBack(request, part);
                if (frees) {
                    return node;
                }
            }
        }
        return NONE;
    }

    private Request draft() {
        return requests[placed];
    }

    private boolean isPlaced(int request) {
        return request >= 0 && request < placed;
    }

    private void dismiss(Request request) {
        books.enter(request, -1);
        request.ended = true;
    }

    /** The nodes, the links, and the ways on those that have not failed. */
    private static final class Ground {
        private final int[] nodeRooms = new int[NODES];
        private final int[] linkRooms = new int[LINKS];
        private final int[] linkStarts = new int[LINKS];
        private final int[] linkEnds = new int[LINKS];
        private final int[][] ways = new int[NODES * NODES][WAYS];
        private final int[] wayCounts = new int[NODES * NODES];
        private int nodes;
        private int links;
        private int failed;

        boolean hasNode(int node) {
            return node >= 0 && node < nodes;
        }

        boolean hasLink(int link) {
            return link >= 0 && link < links;
        }

        int addNode(int room) {
            nodeRooms[nodes] = room;
            nodes++;
            return nodes - 1;
        }

        int addLink(int node, int other, int room) {
            linkRooms[links] = room;
            linkStarts[links] = node;
            linkEnds[links] = other;
            links++;
            findWays();
            return links - 1;
        }

        boolean areLinked(int node, int other) {
            for (int link = 0; link < links; link++) {
                if (beyond(link, node) == other) {
                    return true;
                }
            }
            return false;
        }

        /** The node at the other end of a link; NONE if it has no end at this node. */
        int beyond(int link, int node) {
            if (linkStarts[link] == node) {
                return linkEnds[link];
            }
            return linkEnds[link] == node ? linkStarts[link] : NONE;
        }

        void setFailed(int link, boolean fails) {
            failed = fails ? failed | 1 << link : failed & ~(1 << link);
            findWays();
        }

        private void findWays() {
            for (int pair = 0; pair < wayCounts.length; pair++) {
                wayCounts[pair] = 0;
            }
            for (int start = 0; start < nodes; start++) {
                walk(this, start, start, 1 << start, 0);
            }
        }

        // Lower links are tried first, so the ways of each pair of nodes are found in their order.
        private static void walk(Ground ground, int start, int here, int seen, int way) {
            for (int link = 0; link < ground.links && Integer.bitCount(seen) < NODES; link++) {
                int there = ground.beyond(link, here);
                if (there == NONE || (seen >> there & 1) != 0 || (ground.failed >> link & 1) != 0) {
                    continue;
                }
                ground.keepWay(pairOf(start, there), way | 1 << link);
                walk(ground, start, there, seen | 1 << there, way | 1 << link);
            }
        }

        private void keepWay(int pair, int way) {
            if (pair >= 0 && pair < wayCounts.length && wayCounts[pair] < WAYS) {
                ways[pair][wayCounts[pair]] = way;
                wayCounts[pair]++;
            }
        }

        static int pairOf(int node, int other) {
            return node * NODES + other;
        }

        int countOfWays(int pair) {
            return pair >= 0 && pair < wayCounts.length ? wayCounts[pair] : 0;
        }

        int wayOf(int pair, int index) {
            boolean isThere = pair >= 0 && pair < ways.length && index >= 0 && index < WAYS;
            return isThere ? ways[pair][index] : 0;
        }

        /** Of the ways on open links that with the fewest, of several the first; 0 if there is none. */
        int shortest(int pair, int open) {
            int found = 0;
            int count = countOfWays(pair);
            for (int index = 0; index < count; index++) {
                int way = wayOf(pair, index);
                boolean shorter = found == 0 || Integer.bitCount(way) < Integer.bitCount(found);
                if (shorter && (way & ~open) == 0) {
                    found = way;
                }
            }
            return found;
        }
    }

    /** What is asked for, and where it was put. A line that is not split has its whole need as its share. */
    private static final class Request {
        private final int[] partNeeds = new int[PARTS];
        private final int[] partNodes = new int[PARTS];
        private final int[] places = new int[PARTS];
        private final int[] firstParts = new int[LINES];
        private final int[] otherParts = new int[LINES];
        private final int[] lineNeeds = new int[LINES];
        private final int[] ways = new int[LINES];
        private final int[] shares = new int[LINES];
        private final int[] otherWays = new int[LINES];
        private final int[] secondWays = new int[LINES];
        private int parts;
        private int lines;
        private int manner;
        private int time;
        private boolean ended;

        boolean hasPart(int part) {
            return part >= 0 && part < parts;
        }

        boolean hasLine(int line) {
            return line >= 0 && line < lines;
        }

        int addPart(int need, int nodes) {
            partNeeds[parts] = need;
            partNodes[parts] = nodes;
            parts++;
            return parts - 1;
        }

        int addLine(int part, int other, int need) {
            firstParts[lines] = part;
            otherParts[lines] = other;
            lineNeeds[lines] = need;
            lines++;
            return lines - 1;
        }

        boolean hasLineFor(int part, int other) {
            for (int line = 0; line < lines; line++) {
                if (isLineOf(line, part) && isLineOf(line, other)) {
                    return true;
                }
            }
            return false;
        }

        boolean isLineOf(int line, int part) {
            return firstParts[line] == part || otherParts[line] == part;
        }

        int empty() {
            int had = parts;
            parts = 0;
            lines = 0;
            return had;
        }

        int nodeOf(int part) {
            return part >= 0 && part < parts ? places[part] : NONE;
        }

        int pairOf(int line) {
            return Ground.pairOf(nodeOf(firstParts[line]), nodeOf(otherParts[line]));
        }

        boolean isAt(int node) {
            for (int part = 0; part < parts; part++) {
                if (places[part] == node) {
                    return true;
                }
            }
            return false;
        }

        void setWay(int line, int way) {
            ways[line] = way;
            shares[line] = lineNeeds[line];
            otherWays[line] = 0;
            secondWays[line] = 0;
        }

        int restOf(int line) {
            return lineNeeds[line] - shares[line];
        }

        boolean isMovable() {
            boolean movable = !ended && manner != SAFE;
            for (int line = 0; line < lines; line++) {
                movable = movable && otherWays[line] == 0;
            }
            return movable;
        }

        private boolean isHit(int line, int failed) {
            return ((ways[line] | otherWays[line]) & failed) != 0;
        }

        private boolean runsOnSecondWay(int line, int failed) {
            return isHit(line, failed) && secondWays[line] != 0 && (secondWays[line] & failed) == 0;
        }

        int linesOnSecondWay(int failed) {
            int count = 0;
            for (int line = 0; line < lines; line++) {
                count += runsOnSecondWay(line, failed) ? 1 : 0;
            }
            return count;
        }

        int stoppedLines(int failed) {
            int count = 0;
            for (int line = 0; line < lines; line++) {
                count += isHit(line, failed) && !runsOnSecondWay(line, failed) ? 1 : 0;
            }
            return count;
        }

        int loadOn(int link, int failed) {
            int sum = 0;
            for (int line = 0; line < lines; line++) {
                if (isHit(line, failed)) {
                    sum += (secondWays[line] >> link & 1) * lineNeeds[line];
                } else {
                    sum += (ways[line] >> link & 1) * shares[line];
                    sum += (otherWays[line] >> link & 1) * restOf(line);
                }
            }
            return sum;
        }

        int cost() {
            int sum = 0;
            for (int line = 0; line < lines; line++) {
                sum += shares[line] * Integer.bitCount(ways[line]);
                sum += restOf(line) * Integer.bitCount(otherWays[line]);
            }
            return sum;
        }

        int linksOfPart(int part) {
            int sum = 0;
            for (int line = 0; line < lines; line++) {
                sum += isLineOf(line, part) ? Integer.bitCount(ways[line]) : 0;
            }
            return sum;
        }
    }

    /** What the requests that have not ended take of the ground. A search books what it tries, and takes it back. */
    private static final class Books {
        private final Ground ground;
        private final int[] nodeNeeds = new int[NODES];
        private final int[] nodeParts = new int[NODES];
        private final int[] linkNeeds = new int[LINKS];
        private final int[] reserved = new int[LINKS];
        // By the link that fails, then by the link to which lines would go over then.
        private final int[][] behind = new int[LINKS][LINKS];

        Books(Ground ground) {
            this.ground = ground;
        }

        int leftAtNode(int node) {
            return ground.nodeRooms[node] - nodeNeeds[node];
        }

        int leftOnLink(int link) {
            return ground.linkRooms[link] - linkNeeds[link] - reserved[link];
        }

        /** The links with room for so much. */
        int openFor(int need) {
            int open = 0;
            for (int link = 0; link < ground.links; link++) {
                open |= leftOnLink(link) >= need ? 1 << link : 0;
            }
            return open;
        }

        /** The links on which a line of this way and need could have its second way. */
        int openBehind(int way, int need) {
            int open = 0;
            for (int link = 0; link < ground.links; link++) {
                int reservedThen = reserved[link];
                for (int failing = 0; failing < ground.links; failing++) {
                    int over = behind[failing][link] + (way >> failing & 1) * need;
                    reservedThen = Math.max(reservedThen, over);
                }
                open |= linkNeeds[link] + reservedThen <= ground.linkRooms[link] ? 1 << link : 0;
            }
            return open & ~way;
        }

        /** Books a request, or takes it from the books: the sign is 1 or -1. */
        void enter(Request request, int sign) {
            for (int part = 0; part < request.parts; part++) {
                enterPart(request.places[part], request.partNeeds[part], sign);
            }
            for (int line = 0; line < request.lines; line++) {
                enterWays(request, line, sign);
                enterSecondWay(request, line, sign);
            }
        }

        void enterPart(int node, int need, int sign) {
            if (ground.hasNode(node)) {
                nodeNeeds[node] += sign * need;
                nodeParts[node] += sign;
            }
        }

        void enterWays(Request request, int line, int sign) {
            carry(request.ways[line], sign * request.shares[line]);
            carry(request.otherWays[line], sign * request.restOf(line));
        }

        void carry(int way, int amount) {
            for (int link = 0; link < ground.links; link++) {
                linkNeeds[link] += (way >> link & 1) * amount;
            }
        }

        void enterSecondWay(Request request, int line, int sign) {
            for (int link = 0; link < ground.links; link++) {
                if ((request.secondWays[line] >> link & 1) != 0) {
                    reserve(link, request.ways[line], sign * request.lineNeeds[line]);
                }
            }
        }

        private void reserve(int link, int way, int amount) {
            int greatest = 0;
            for (int failing = 0; failing < ground.links; failing++) {
                behind[failing][link] += (way >> failing & 1) * amount;
                greatest = Math.max(greatest, behind[failing][link]);
            }
            reserved[link] = greatest;
        }
    }

    /** The choices of nodes for the parts of a draft, in their order: as numbers with a digit for each part. */
    private static final class Choices {
        private final Ground ground;
        private final Books books;
        private final int[] fitting = new int[PARTS];

        Choices(Ground ground, Books books) {
            this.ground = ground;
            this.books = books;
        }

        int prepare(Request draft) {
            int count = 1;
            for (int part = 0; part < draft.parts; part++) {
                fitting[part] = 0;
                for (int node = 0; node < ground.nodes; node++) {
                    boolean fits = books.leftAtNode(node) >= draft.partNeeds[part];
                    fitting[part] |= fits ? draft.partNodes[part] & 1 << node : 0;
                }
                count *= NODES;
            }
            return count;
        }

        /** Puts the draft's parts at the nodes of a choice; false if it is none. */
        boolean take(Request draft, int choice) {
            int digits = choice;
            int taken = 0;
            for (int part = draft.parts - 1; part >= 0; part--) {
                int node = digits % NODES;
                digits /= NODES;
                if ((fitting[part] >> node & 1) == 0 || (taken >> node & 1) != 0) {
                    return false;
                }
                taken |= 1 << node;
                draft.places[part] = node;
            }
            return true;
        }
    }

    /** The search for the least mapping of a draft. */
    private static final class Search {
        /** Passes over what can't cost less than the least so far. */
        private static final int CUT = 0;
        /** Passes over nothing that there is room for. */
        private static final int WHOLE = 1;
        /** Rests at the first mapping: for whether there is one. */
        private static final int FIRST = 2;

        private final Ground ground;
        private final Books books;
        private final Choices choices;
        private final int[] tried = new int[LINES];
        private final int[] floors = new int[LINES + 1];
        private final int[] leastPlaces = new int[PARTS];
        private final int[] leastWays = new int[LINES];
        private int thoroughness;
        private int leastCost;

        Search(Ground ground, Books books) {
            this.ground = ground;
            this.books = books;
            this.choices = new Choices(ground, books);
        }

        /** Returns the least cost, that of the first mapping if it rests there, NONE if there is none. */
        int run(Request draft, int thoroughness) {
            this.thoroughness = thoroughness;
            leastCost = NONE;
            int count = choices.prepare(draft);
            for (int choice = 0; choice < count; choice++) {
                if (choices.take(draft, choice) && findFloors(draft) && !isCut(floors[0])) {
                    chooseWays(this, draft, 0, 0);
                }
            }
            return leastCost;
        }

        /** Gives the draft the mapping that the run found. */
        void handOver(Request draft) {
            for (int part = 0; part < draft.parts; part++) {
                draft.places[part] = leastPlaces[part];
            }
            for (int line = 0; line < draft.lines; line++) {
                draft.setWay(line, leastWays[line]);
            }
        }

        // The floor of a line is the least that it and those behind it can cost; false if one has no way alone.
        private boolean findFloors(Request draft) {
            floors[draft.lines] = 0;
            for (int line = draft.lines - 1; line >= 0; line--) {
                floors[line] = 0;
                if (thoroughness == WHOLE) {
                    continue;
                }
                int need = draft.lineNeeds[line];
                int way = ground.shortest(draft.pairOf(line), books.openFor(need));
                if (way == 0) {
                    return false;
                }
                floors[line] = floors[line + 1] + need * Integer.bitCount(way);
            }
            return true;
        }

        private boolean isCut(int floor) {
            boolean canBeLess = thoroughness == WHOLE || thoroughness == CUT && floor < leastCost;
            return leastCost != NONE && !canBeLess;
        }

        private static void chooseWays(Search search, Request draft, int line, int cost) {
            if (line >= draft.lines) {
                search.keepLeast(draft, cost);
                return;
            }
            int need = draft.lineNeeds[line];
            int open = search.books.openFor(need);
            int pair = draft.pairOf(line);
            int count = search.ground.countOfWays(pair);
            for (int index = 0; index < count; index++) {
                int way = search.ground.wayOf(pair, index);
                int costThen = cost + need * Integer.bitCount(way);
                if ((way & ~open) == 0 && !search.isCut(costThen + search.floors[line + 1])) {
                    search.tried[line] = way;
                    search.books.carry(way, need);
                    chooseWays(search, draft, line + 1, costThen);
                    search.books.carry(way, -need);
                }
            }
        }

        // Of mappings that cost the same the first one found is the one that goes first.
        private void keepLeast(Request draft, int cost) {
            if (leastCost != NONE && cost >= leastCost) {
                return;
            }
            leastCost = cost;
            for (int part = 0; part < draft.parts; part++) {
                leastPlaces[part] = draft.places[part];
            }
            for (int line = 0; line < draft.lines; line++) {
                leastWays[line] = tried[line];
            }
        }
    }

    /** Places a draft in one of the three manners. */
    private static final class Placer {
        private final Ground ground;
        private final Books books;
        private final Search search;
        private final Choices choices;

        Placer(Ground ground, Books books, Search search) {
            this.ground = ground;
            this.books = books;
            this.search = search;
            this.choices = new Choices(ground, books);
        }

        /** Books the draft; false, and the books are as they were, if it cannot be placed so. */
        boolean lodge(Request draft, int manner) {
            boolean mapped = search.run(draft, Search.CUT) != NONE;
            if (mapped) {
                search.handOver(draft);
            } else if (manner != SPLIT || !mapSplit(draft)) {
                return false;
            }
            books.enter(draft, 1);
            if (manner != SAFE || secure(draft)) {
                return true;
            }
            books.enter(draft, -1);
            return false;
        }

        private boolean mapSplit(Request draft) {
            int count = choices.prepare(draft);
            for (int choice = 0; choice < count; choice++) {
                if (choices.take(draft, choice) && splitLines(draft)) {
                    return true;
                }
            }
            return false;
        }

        // What is booked here is only for the lines behind to see.
        private boolean splitLines(Request draft) {
            int done = 0;
            while (done < draft.lines && splitLine(draft, done)) {
                books.enterWays(draft, done, 1);
                done++;
            }
            for (int line = 0; line < done; line++) {
                books.enterWays(draft, line, -1);
            }
            return done == draft.lines;
        }

        private boolean splitLine(Request draft, int line) {
            int pair = draft.pairOf(line);
            int share = draft.lineNeeds[line];
            int way = ground.shortest(pair, books.openFor(share));
            // The first lesser share that has a way is the greatest least room that any way has.
            while (way == 0 && share > 1) {
                share--;
                way = ground.shortest(pair, books.openFor(share));
            }
            draft.setWay(line, way);
            draft.shares[line] = share;
            int rest = draft.restOf(line);
            if (way == 0 || rest == 0) {
                return way != 0;
            }
            books.carry(way, share);
            draft.otherWays[line] = ground.shortest(pair, books.openFor(rest));
            books.carry(way, -share);
            return draft.otherWays[line] != 0;
        }

        private boolean secure(Request draft) {
            for (int line = 0; line < draft.lines; line++) {
                int open = books.openBehind(draft.ways[line], draft.lineNeeds[line]);
                draft.secondWays[line] = ground.shortest(draft.pairOf(line), open);
                if (draft.secondWays[line] == 0) {
                    return false;
                }
                books.enterSecondWay(draft, line, 1);
            }
            return true;
        }
    }

    /** Moves a part of a request, and can take its last move back. */
    private static final class Mover {
        private final Ground ground;
        private final Books books;
        private final int[] waysBefore = new int[LINES];
        private int nodeBefore;

        Mover(Ground ground, Books books) {
            this.ground = ground;
            this.books = books;
        }

        /** Moves the part; false, and nothing has changed, if that cannot be. */
        boolean shift(Request request, int part, int node) {
            boolean mayBe = (request.partNodes[part] >> node & 1) != 0 && !request.isAt(node);
            if (!mayBe || books.leftAtNode(node) < request.partNeeds[part]) {
                return false;
            }
            nodeBefore = request.places[part];
            putAt(request, part, node);
            for (int line = 0; line < request.lines; line++) {
                if (request.isLineOf(line, part)) {
                    waysBefore[line] = request.ways[line];
                    giveWay(request, line, 0);
                }
            }
            for (int line = 0; line < request.lines; line++) {
                if (request.isLineOf(line, part) && !findWay(request, line)) {
                    takeBack(request, part);
                    return false;
                }
            }
            return true;
        }

        void takeBack(Request request, int part) {
            putAt(request, part, nodeBefore);
            for (int line = 0; line < request.lines; line++) {
                if (request.isLineOf(line, part)) {
                    giveWay(request, line, waysBefore[line]);
                }
            }
        }

        private boolean findWay(Request request, int line) {
            int way = ground.shortest(request.pairOf(line), books.openFor(request.lineNeeds[line]));
            giveWay(request, line, way);
            return way != 0;
        }

        private void putAt(Request request, int part, int node) {
            books.enterPart(request.places[part], request.partNeeds[part], -1);
            request.places[part] = node;
            books.enterPart(node, request.partNeeds[part], 1);
        }

        private void giveWay(Request request, int line, int way) {
            books.carry(request.ways[line], -request.lineNeeds[line]);
            request.ways[line] = way;
            books.carry(way, request.lineNeeds[line]);
        }
    }
}

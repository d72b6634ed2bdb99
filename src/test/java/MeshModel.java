import java.util.ArrayList;
import java.util.Comparator;
import java.util.HashSet;
import java.util.List;
import java.util.Set;

/**
 * The document again, as plainly and slowly as it can be said: nothing is kept but what the calls told,
 * everything else is worked out anew at each question. The tests hold the class against it.
 */
final class MeshModel {
    static final int NONE = -1;

    /** A link of the ground. */
    private static final class Link {
        int node;
        int other;
        int room;
        boolean failed;
    }

    /** A part, of a draft or of a request. */
    private static final class Part {
        int need;
        int nodes;
        int place;
    }

    /** What one line has: its ways are rows of links; null where it has none such. */
    private static final class Line {
        int part;
        int other;
        int need;
        List<Integer> way;
        int onWay;
        List<Integer> rest;
        List<Integer> second;
    }

    private static final class Request {
        List<Part> parts = new ArrayList<>();
        List<Line> lines = new ArrayList<>();
        int manner;
        int time;
        boolean ended;
    }

    private static final class Mapping {
        int cost;
        List<Integer> places = new ArrayList<>();
        List<List<Integer>> ways = new ArrayList<>();
    }

    private final List<Integer> rooms = new ArrayList<>();
    private final List<Link> links = new ArrayList<>();
    private final List<Request> requests = new ArrayList<>();
    private Request draft = new Request();
    private int tick;

    // ---- the order of ways, and the ways themselves

    private static final Comparator<List<Integer>> GOES_FIRST = (one, other) -> {
        for (int i = 0; i < Math.min(one.size(), other.size()); i++) {
            if (!one.get(i).equals(other.get(i))) {
                return Integer.compare(one.get(i), other.get(i));
            }
        }
        return Integer.compare(one.size(), other.size());
    };

    private static final Comparator<List<Integer>> FEWEST_LINKS =
            Comparator.<List<Integer>>comparingInt(List::size).thenComparing(GOES_FIRST);

    private List<List<Integer>> waysBetween(int from, int to) {
        List<List<Integer>> found = new ArrayList<>();
        // Backwards, so that the order is made by the sorting and by nothing else.
        for (int link = links.size() - 1; link >= 0; link--) {
            Set<Integer> seen = new HashSet<>();
            seen.add(from);
            extend(found, new ArrayList<>(), seen, from, link, to);
        }
        found.sort(GOES_FIRST);
        return found;
    }

    private void extend(List<List<Integer>> found, List<Integer> row, Set<Integer> seen, int here, int by, int to) {
        Link link = links.get(by);
        if (link.failed || link.node != here && link.other != here) {
            return;
        }
        int there = link.node == here ? link.other : link.node;
        if (seen.contains(there)) {
            return;
        }
        List<Integer> longer = new ArrayList<>(row);
        longer.add(by);
        if (there == to) {
            found.add(longer);
            return;
        }
        Set<Integer> seenThen = new HashSet<>(seen);
        seenThen.add(there);
        for (int next = links.size() - 1; next >= 0; next--) {
            extend(found, longer, seenThen, there, next, to);
        }
    }

    // ---- room

    private List<Line> linesThere() {
        List<Line> all = new ArrayList<>();
        for (Request request : requests) {
            if (!request.ended) {
                all.addAll(request.lines);
            }
        }
        return all;
    }

    private static boolean has(List<Integer> way, int link) {
        return way != null && way.contains(link);
    }

    private static int needOn(Line line, int link) {
        return (has(line.way, link) ? line.onWay : 0) + (has(line.rest, link) ? line.need - line.onWay : 0);
    }

    private int needsOn(int link, List<Line> lines) {
        return lines.stream().mapToInt(line -> needOn(line, link)).sum();
    }

    private int reservedOn(int link, List<Line> lines) {
        int greatest = 0;
        for (int other = 0; other < links.size(); other++) {
            int sum = 0;
            for (Line line : lines) {
                if (other != link && has(line.way, other) && has(line.second, link)) {
                    sum += line.need;
                }
            }
            greatest = Math.max(greatest, sum);
        }
        return greatest;
    }

    private int roomOnLink(int link, List<Line> lines) {
        return links.get(link).room - needsOn(link, lines) - reservedOn(link, lines);
    }

    private int roomOnLink(int link) {
        return roomOnLink(link, linesThere());
    }

    private int partsAt(int node) {
        int count = 0;
        for (Request request : requests) {
            for (Part part : request.parts) {
                count += !request.ended && part.place == node ? 1 : 0;
            }
        }
        return count;
    }

    private int roomAtNode(int node) {
        int room = rooms.get(node);
        for (Request request : requests) {
            for (Part part : request.parts) {
                room -= !request.ended && part.place == node ? part.need : 0;
            }
        }
        return room;
    }

    // ---- mappings

    private List<List<Integer>> choicesOfNodes() {
        List<List<Integer>> choices = new ArrayList<>();
        choices.add(new ArrayList<>());
        for (Part part : draft.parts) {
            List<List<Integer>> longer = new ArrayList<>();
            for (List<Integer> choice : choices) {
                for (int node = 0; node < rooms.size(); node++) {
                    boolean may = (part.nodes & 1 << node) != 0 && roomAtNode(node) >= part.need;
                    if (may && !choice.contains(node)) {
                        List<Integer> more = new ArrayList<>(choice);
                        more.add(node);
                        longer.add(more);
                    }
                }
            }
            choices = longer;
        }
        return choices;
    }

    private Mapping leastMapping() {
        if (draft.parts.isEmpty()) {
            return null;
        }
        int[] room = new int[links.size()];
        for (int link = 0; link < room.length; link++) {
            room[link] = roomOnLink(link);
        }
        Mapping best = null;
        for (List<Integer> choice : choicesOfNodes()) {
            best = bestOf(best, choice, room, new ArrayList<>());
        }
        return best;
    }

    private Mapping bestOf(Mapping best, List<Integer> places, int[] room, List<List<Integer>> ways) {
        if (ways.size() < draft.lines.size()) {
            Line line = draft.lines.get(ways.size());
            for (List<Integer> way : waysBetween(places.get(line.part), places.get(line.other))) {
                int[] roomThen = room.clone();
                boolean fits = true;
                for (int link : way) {
                    roomThen[link] -= line.need;
                    fits = fits && roomThen[link] >= 0;
                }
                if (fits) {
                    List<List<Integer>> waysThen = new ArrayList<>(ways);
                    waysThen.add(way);
                    best = bestOf(best, places, roomThen, waysThen);
                }
            }
            return best;
        }
        Mapping mapping = new Mapping();
        mapping.places = places;
        mapping.ways = ways;
        for (int i = 0; i < ways.size(); i++) {
            mapping.cost += draft.lines.get(i).need * ways.get(i).size();
        }
        return best == null || goesBefore(mapping, best) ? mapping : best;
    }

    private static boolean goesBefore(Mapping one, Mapping other) {
        int order = Integer.compare(one.cost, other.cost);
        for (int i = 0; order == 0 && i < one.places.size(); i++) {
            order = Integer.compare(one.places.get(i), other.places.get(i));
        }
        for (int i = 0; order == 0 && i < one.ways.size(); i++) {
            order = GOES_FIRST.compare(one.ways.get(i), other.ways.get(i));
        }
        return order < 0;
    }

    private void take(List<Integer> places) {
        for (int i = 0; i < places.size(); i++) {
            draft.parts.get(i).place = places.get(i);
        }
    }

    private boolean isMapped() {
        Mapping mapping = leastMapping();
        if (mapping == null) {
            return false;
        }
        take(mapping.places);
        for (int i = 0; i < mapping.ways.size(); i++) {
            Line line = draft.lines.get(i);
            line.way = mapping.ways.get(i);
            line.onWay = line.need;
            line.rest = null;
            line.second = null;
        }
        return true;
    }

    private List<Integer> wayWithRoom(int from, int to, int need, List<Line> there) {
        List<Integer> best = null;
        for (List<Integer> way : waysBetween(from, to)) {
            boolean fits = leastRoom(way, there) >= need;
            if (fits && (best == null || FEWEST_LINKS.compare(way, best) < 0)) {
                best = way;
            }
        }
        return best;
    }

    private int leastRoom(List<Integer> way, List<Line> there) {
        return way.stream().mapToInt(link -> roomOnLink(link, there)).min().getAsInt();
    }

    private List<Integer> roomiestWay(int from, int to, List<Line> there) {
        List<Integer> best = null;
        for (List<Integer> way : waysBetween(from, to)) {
            int room = leastRoom(way, there);
            int bestRoom = best == null ? 0 : leastRoom(best, there);
            if (room > bestRoom || best != null && room == bestRoom && FEWEST_LINKS.compare(way, best) < 0) {
                best = way;
            }
        }
        return best;
    }

    private boolean isSplit() {
        for (List<Integer> places : choicesOfNodes()) {
            take(places);
            List<Line> there = linesThere();
            boolean all = true;
            for (Line line : draft.lines) {
                all = all && isPutSplit(line, there);
                there.add(line);
            }
            if (all) {
                return true;
            }
        }
        return false;
    }

    private boolean isPutSplit(Line line, List<Line> there) {
        int from = draft.parts.get(line.part).place;
        int to = draft.parts.get(line.other).place;
        line.rest = null;
        line.second = null;
        line.onWay = line.need;
        line.way = wayWithRoom(from, to, line.need, there);
        if (line.way != null) {
            return true;
        }
        List<Integer> roomiest = roomiestWay(from, to, there);
        if (roomiest == null) {
            return false;
        }
        line.onWay = leastRoom(roomiest, there);
        line.way = roomiest;
        List<Line> withIt = new ArrayList<>(there);
        withIt.add(line);
        line.rest = wayWithRoom(from, to, line.need - line.onWay, withIt);
        return line.rest != null;
    }

    private boolean isSafe() {
        List<Line> there = linesThere();
        there.addAll(draft.lines);
        for (Line line : draft.lines) {
            List<Integer> best = null;
            int from = draft.parts.get(line.part).place;
            int to = draft.parts.get(line.other).place;
            for (List<Integer> way : waysBetween(from, to)) {
                if (way.stream().anyMatch(line.way::contains)) {
                    continue;
                }
                line.second = way;
                boolean within = true;
                for (int link : way) {
                    within = within && reservedOn(link, there) <= links.get(link).room - needsOn(link, there);
                }
                if (within && (best == null || FEWEST_LINKS.compare(way, best) < 0)) {
                    best = way;
                }
            }
            line.second = best;
            if (best == null) {
                return false;
            }
        }
        return true;
    }

    // ---- how a line runs

    private boolean isWhole(List<Integer> way) {
        return way == null || way.stream().noneMatch(link -> links.get(link).failed);
    }

    /** 1 on its way or ways, 2 on its second way, 0 not at all. */
    private int runs(Line line) {
        if (isWhole(line.way) && isWhole(line.rest)) {
            return 1;
        }
        return line.second != null && isWhole(line.second) ? 2 : 0;
    }

    private int countOf(Request request, int how) {
        return (int) request.lines.stream().filter(line -> runs(line) == how).count();
    }

    // ---- the face

    private static void check(boolean index, boolean argument, boolean state) {
        if (!index) {
            throw new IndexOutOfBoundsException();
        }
        if (!argument) {
            throw new IllegalArgumentException();
        }
        if (!state) {
            throw new IllegalStateException();
        }
    }

    private static boolean in(int value, int from, int to) {
        return value >= from && value <= to;
    }

    private boolean isNode(int node) {
        return in(node, 0, rooms.size() - 1);
    }

    private boolean isLink(int link) {
        return in(link, 0, links.size() - 1);
    }

    private boolean isRequest(int request) {
        return in(request, 0, requests.size() - 1);
    }

    private boolean isPart(int request, int part) {
        return isRequest(request) && in(part, 0, requests.get(request).parts.size() - 1);
    }

    int node(int room) {
        check(true, in(room, 1, 99), rooms.size() < 6);
        rooms.add(room);
        return rooms.size() - 1;
    }

    int link(int node, int other, int room) {
        boolean both = false;
        for (Link link : links) {
            both |= link.node == node && link.other == other || link.node == other && link.other == node;
        }
        check(isNode(node) && isNode(other), node != other && in(room, 1, 99), links.size() < 9 && !both);
        Link link = new Link();
        link.node = node;
        link.other = other;
        link.room = room;
        links.add(link);
        return links.size() - 1;
    }

    int fail(int link, boolean fails) {
        check(isLink(link), true, true);
        links.get(link).failed = fails;
        int count = 0;
        for (Request request : requests) {
            count += !request.ended && countOf(request, 0) > 0 ? 1 : 0;
        }
        return count;
    }

    int part(int need, int nodes) {
        check(true, in(need, 1, 20) && in(nodes, 1, 63), draft.parts.size() < 3);
        Part part = new Part();
        part.need = need;
        part.nodes = nodes;
        draft.parts.add(part);
        return draft.parts.size() - 1;
    }

    int line(int part, int other, int need) {
        int last = draft.parts.size() - 1;
        boolean both = false;
        for (Line line : draft.lines) {
            both |= line.part == part && line.other == other || line.part == other && line.other == part;
        }
        check(in(part, 0, last) && in(other, 0, last), part != other && in(need, 1, 20), !both);
        Line line = new Line();
        line.part = part;
        line.other = other;
        line.need = need;
        draft.lines.add(line);
        return draft.lines.size() - 1;
    }

    int clear() {
        int had = draft.parts.size();
        draft = new Request();
        return had;
    }

    int place(int manner, int ticks) {
        check(true, in(manner, 0, 2) && in(ticks, 1, 100), requests.size() < 12 && !draft.parts.isEmpty());
        boolean can = isMapped() ? manner != 2 || isSafe() : manner == 1 && isSplit();
        if (!can) {
            return NONE;
        }
        draft.manner = manner;
        draft.time = tick + ticks;
        requests.add(draft);
        draft = new Request();
        return requests.size() - 1;
    }

    void end(int request) {
        check(isRequest(request), true, !isRequest(request) || !requests.get(request).ended);
        requests.get(request).ended = true;
    }

    private static boolean isMovable(Request request) {
        return !request.ended && request.manner != 2 && request.lines.stream().allMatch(line -> line.rest == null);
    }

    int move(int request, int part, int node) {
        boolean index = isPart(request, part) && isNode(node);
        check(index, !index || requests.get(request).parts.get(part).place != node,
                !index || isMovable(requests.get(request)));
        Request moved = requests.get(request);
        if (!isMoved(moved, part, node)) {
            return NONE;
        }
        int sum = 0;
        for (Line line : moved.lines) {
            sum += line.part == part || line.other == part ? line.way.size() : 0;
        }
        return sum;
    }

    private boolean isMoved(Request request, int part, int node) {
        Part moved = request.parts.get(part);
        boolean can = (moved.nodes & 1 << node) != 0 && roomAtNode(node) >= moved.need;
        for (Part other : request.parts) {
            can = can && (other == moved || other.place != node);
        }
        if (!can) {
            return false;
        }
        int placeBefore = moved.place;
        List<List<Integer>> waysBefore = new ArrayList<>();
        for (Line line : request.lines) {
            waysBefore.add(line.way);
            line.way = line.part == part || line.other == part ? null : line.way;
        }
        moved.place = node;
        for (Line line : request.lines) {
            if (line.way == null && can) {
                int from = request.parts.get(line.part).place;
                line.way = wayWithRoom(from, request.parts.get(line.other).place, line.need, linesThere());
                can = line.way != null;
            }
        }
        if (!can) {
            restore(request, moved, placeBefore, waysBefore);
        }
        return can;
    }

    private static void restore(Request request, Part part, int place, List<List<Integer>> ways) {
        part.place = place;
        for (int i = 0; i < ways.size(); i++) {
            request.lines.get(i).way = ways.get(i);
        }
    }

    int pass(int ticks) {
        check(true, in(ticks, 1, 100), true);
        for (int i = 0; i < ticks; i++) {
            tick++;
            for (Request request : requests) {
                request.ended = request.ended || request.time == tick;
            }
        }
        return tick;
    }

    int now() {
        return tick;
    }

    int ofNode(int node, int what) {
        check(isNode(node), in(what, 0, 1), true);
        return what == 0 ? roomAtNode(node) : partsAt(node);
    }

    int ofLink(int link, int what) {
        check(isLink(link), in(what, 0, 3), true);
        switch (what) {
            case 0: return needsOn(link, linesThere());
            case 1: return reservedOn(link, linesThere());
            case 2: return roomOnLink(link);
            default: return links.get(link).failed ? 1 : 0;
        }
    }

    int load(int link, int failed) {
        check(isLink(link) && (failed == NONE || isLink(failed)), link != failed, true);
        int sum = 0;
        for (Line line : linesThere()) {
            boolean hit = has(line.way, failed) || has(line.rest, failed);
            if (!hit) {
                sum += needOn(line, link);
            } else if (has(line.second, link)) {
                sum += line.need;
            }
        }
        return sum;
    }

    int told(int request, int what) {
        check(isRequest(request), in(what, 0, 7), true);
        Request asked = requests.get(request);
        switch (what) {
            case 0: return asked.ended ? 1 : 0;
            case 1: return asked.manner;
            case 2: return asked.time;
            case 3: return asked.parts.size();
            case 4: return asked.lines.size();
            case 5: return countOf(asked, 0);
            case 6: return countOf(asked, 2);
            default:
                int sum = 0;
                for (Line line : asked.lines) {
                    sum += line.onWay * line.way.size();
                    sum += line.rest == null ? 0 : (line.need - line.onWay) * line.rest.size();
                }
                return sum;
        }
    }

    int at(int request, int part) {
        check(isPart(request, part), true, true);
        return requests.get(request).parts.get(part).place;
    }

    int way(int request, int line, int which) {
        boolean index = isRequest(request) && in(line, 0, requests.get(request).lines.size() - 1);
        check(index, in(which, 0, 2), true);
        Line asked = requests.get(request).lines.get(line);
        List<Integer> row = which == 0 ? asked.way : which == 1 ? asked.rest : asked.second;
        int bits = 0;
        for (int i = 0; row != null && i < row.size(); i++) {
            bits |= 1 << row.get(i);
        }
        return bits;
    }

    int least() {
        Mapping mapping = leastMapping();
        return mapping == null ? NONE : mapping.cost;
    }

    int leastAnew() {
        return least();
    }

    int freeing() {
        if (draft.parts.isEmpty() || leastMapping() != null) {
            return NONE;
        }
        int bestNeed = Integer.MAX_VALUE;
        int best = NONE;
        for (int number = 0; number < requests.size(); number++) {
            Request request = requests.get(number);
            for (int part = 0; isMovable(request) && part < request.parts.size(); part++) {
                for (int node = 0; node < rooms.size(); node++) {
                    if (request.parts.get(part).need < bestNeed && lets(request, part, node)) {
                        bestNeed = request.parts.get(part).need;
                        best = 100 * number + 10 * part + node;
                    }
                }
            }
        }
        return best;
    }

    private boolean lets(Request request, int part, int node) {
        Part moved = request.parts.get(part);
        int placeBefore = moved.place;
        List<List<Integer>> waysBefore = new ArrayList<>();
        for (Line line : request.lines) {
            waysBefore.add(line.way);
        }
        if (placeBefore == node || !isMoved(request, part, node)) {
            return false;
        }
        boolean in = leastMapping() != null;
        restore(request, moved, placeBefore, waysBefore);
        return in;
    }
}

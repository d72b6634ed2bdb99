/** The sentences under the promises' own headings, each with runs at its edges. */
final class EdgesOfPromises {
    private static final String RING = Runs.RING;
    private static final String PAIR = Runs.PAIR;
    private static final String SIX = Runs.SIX;
    private static final String FULL = Runs.FULL;
    private static final String TWELVE = Runs.TWELVE;
    private static final String ENDS_0_1 = Runs.ENDS_0_1;
    private static final String ENDS_0_2 = Runs.ENDS_0_2;

    private final Sentences sentences;
    private int promise;

    EdgesOfPromises(Sentences sentences) {
        this.sentences = sentences;
    }

    void all() {
        newObject();
        node();
        link();
        fail();
        part();
        line();
        clear();
        place();
        end();
        move();
        pass();
        now();
        ofNode();
        ofLink();
        load();
        told();
        toldOfEnded();
        at();
        way();
        least();
        leastAnew();
        freeing();
        freeingNone();
    }

    private void says(String quote, String... calls) {
        sentences.ofPromise(promise, quote, calls);
    }

    private void newObject() {
        promise = 1;
        says("No nodes", "ofNode 0 0=index; link 0 1 5=index; ofLink 0 0=index; node 1=0");
        says("an empty draft", "clear=0; place 0 1=state; line 0 0 1=index; least=-1; leastAnew=-1; freeing=-1; part 1 1=0");
        says("the tick 0", "now=0; pass 1=1");
        says("No nodes, an empty draft; the tick 0", "told 0 0=index; end 0=index; at 0 0=index; fail 0 true=index");
    }

    private void node() {
        promise = 2;
        says("Adds a node", "ofNode 0 0=index; node 7=0; ofNode 0 0=7; ofNode 0 1=0; ofNode 1 0=index; node 8=1; "
                + "ofNode 1 0=8; ofNode 0 0=7");
        says("room: 1 to 99", "node 1=0; node 99=1; node 2=2; node 98=3; ofNode 0 0=1; ofNode 1 0=99; ofNode 3 0=98");
        says("Returns its number", "node 9=0; node 9=1; node 0=argument; node 9=2; part 9 1=0; place 0 1=0; node 9=3; "
                + "pass 1=1; node 9=4; node 9=5");
        says("Throws IllegalArgumentException if room is out of range", "node 0=argument; node 100=argument; "
                + "node -1=argument; node -99=argument; node 2147483647=argument; node -2147483648=argument; "
                + "ofNode 0 0=index; node 1=0");
        says("Throws IllegalStateException if there are 6", SIX, "node 1=state; node 99=state; ofNode 5 0=20; "
                + "ofNode 6 0=index; link 0 6 1=index");
    }

    private void link() {
        promise = 3;
        says("Adds a link", SIX, "ofLink 0 0=index; link 4 5 7=0; ofLink 0 0=0; ofLink 0 1=0; ofLink 0 2=7; ofLink 0 3=0; "
                + "part 1 16=0; part 1 32=1; line 0 1 7=0; least=7; ofLink 1 0=index");
        says("room: 1 to 99", SIX, "link 0 1 1=0; link 1 2 99=1; link 2 3 2=2; link 3 4 98=3; ofLink 0 2=1; ofLink 1 2=99; "
                + "ofLink 3 2=98");
        says("Returns its number", "node 1=0; node 1=1; link 1 0 5=0; node 1=2; link 0 0 5=argument; link 2 1 5=1; "
                + "fail 1 true=0; link 0 2 5=2");
        says("Throws IndexOutOfBoundsException if there is no such node, of both", "link 0 1 5=index; link 0 0 5=index; "
                + "node 9=0; link 0 1 5=index; link 1 0 5=index; link 1 1 5=index; node 9=1; link 2 3 5=index; "
                + "link -1 1 5=index; link 1 -1 5=index; link 0 2147483647 5=index; link -2147483648 0 5=index; "
                + "ofLink 0 0=index; link 0 1 5=0");
        says("Throws IllegalArgumentException if both are the same", SIX, "link 0 0 5=argument; link 5 5 99=argument; "
                + "ofLink 0 0=index; link 0 5 5=0");
        says("or room is out of range", SIX, "link 0 1 0=argument; link 0 1 100=argument; link 0 1 -1=argument; "
                + "link 0 1 2147483647=argument; link 0 1 -2147483648=argument; ofLink 0 0=index; link 0 1 1=0");
        says("Throws IllegalStateException if there are 9", FULL, "link 1 3 5=state; link 5 1 99=state; fail 8 true=0; "
                + "link 1 3 5=state; ofLink 9 0=index");
        says("or there is one for both", SIX, "link 0 1 5=0; link 0 1 5=state; link 1 0 6=state; fail 0 true=0; "
                + "link 0 1 5=state; ofLink 1 0=index; ofLink 0 2=5; link 0 2 5=1; link 2 1 5=2; link 1 2 5=state");
    }

    private void fail() {
        promise = 4;
        says("Lets a link fail, or mends it", RING, "fail 3 true=0; ofLink 3 3=1; ofLink 2 3=0; fail 3 true=0; ofLink 3 3=1; "
                + "fail 3 false=0; ofLink 3 3=0; fail 3 false=0; ofLink 3 3=0");
        says("Returns how many requests", RING, ENDS_0_1, "line 0 1 1=0; place 0 9=0; ", ENDS_0_1, "line 0 1 1=0; place 0 9=1; ",
                ENDS_0_1, "place 0 9=2; fail 2 true=0; fail 0 true=2; fail 3 true=2; fail 0 true=2; fail 3 false=2; "
                + "fail 0 false=0");
        says("that have not ended", PAIR, ENDS_0_1, "line 0 1 1=0; place 0 2=0; ", ENDS_0_1, "line 0 1 1=0; place 0 9=1; ",
                ENDS_0_1, "line 0 1 1=0; place 0 9=2; fail 0 true=3; end 2=nothing; fail 0 true=2; pass 2=2; fail 0 true=1; "
                + "pass 7=9; fail 0 true=0; told 0 5=1");
        says("have a line that does not run then", RING, "part 1 1=0; part 1 2=1; part 1 4=2; line 0 1 1=0; line 1 2 1=1; "
                + "line 0 2 1=2; place 0 9=0; fail 0 true=1; told 0 5=2; fail 1 true=1; told 0 5=3; fail 0 false=1; "
                + "told 0 5=2; fail 1 false=0");
        says("a line that does not run then", RING, ENDS_0_1, "line 0 1 1=0; place 2 9=0; fail 1 true=0; fail 0 true=1; "
                + "fail 1 false=0; fail 3 true=1; fail 0 false=0");
        says("a line that does not run then", RING, ENDS_0_1, "line 0 1 11=0; place 1 9=0; way 0 0 1=14; fail 3 true=1; "
                + "fail 0 true=1; fail 3 false=1; fail 0 false=0");
        says("Returns how many requests", everyRequestHasALine(), "fail 0 true=12; told 11 5=1; fail 0 false=0");
        says("Returns how many requests", PAIR, ENDS_0_1, "line 0 1 4=0; place 2 9=-1; fail 0 true=0; fail 0 false=0");
        says("Throws IndexOutOfBoundsException if there is no such link", "fail 0 true=index; fail 0 false=index; ", PAIR,
                "fail 1 true=index; fail -1 true=index; fail 1 false=index; fail 32 true=index; fail 2147483647 false=index; "
                + "fail -2147483648 true=index; ofLink 0 3=0; fail 0 true=0");
    }

    private static String everyRequestHasALine() {
        StringBuilder calls = new StringBuilder(PAIR);
        for (int request = 0; request < 12; request++) {
            calls.append(ENDS_0_1).append("line 0 1 4=0; place 0 9=").append(request).append("; ");
        }
        return calls.toString();
    }

    private void part() {
        promise = 5;
        says("Adds a part to the draft", "node 9=0; part 4 1=0; least=0; place 0 9=0; told 0 3=1; ofNode 0 0=5; clear=0; "
                + "part 5 1=0; clear=1");
        says("need: 1 to 20", "node 20=0; part 1 1=0; place 0 9=0; ofNode 0 0=19; end 0=nothing; part 20 1=0; place 0 9=1; "
                + "ofNode 0 0=0");
        says("nodes: 1 to 63: where it may be", SIX, "part 1 1=0; part 1 32=1; place 0 9=0; at 0 0=0; at 0 1=5; part 1 63=0; "
                + "part 1 62=1; place 0 9=1; at 1 0=0; at 1 1=1; part 1 48=0; place 0 9=2; at 2 0=4");
        says("Returns its number, 0 to 2", "part 1 1=0; part 0 1=argument; part 1 1=1; part 1 1=2; clear=3; part 1 1=0");
        says("Throws IllegalArgumentException if need", "part 0 1=argument; part 21 1=argument; part -1 1=argument; "
                + "part 2147483647 1=argument; part -2147483648 1=argument; clear=0");
        says("or nodes is out of range", "part 1 0=argument; part 1 64=argument; part 1 -1=argument; part 1 65=argument; "
                + "part 1 2147483647=argument; part 1 -2147483648=argument; clear=0");
        says("Throws IllegalStateException if there are 3", "part 1 1=0; part 1 1=1; part 1 1=2; part 1 1=state; "
                + "part 20 63=state; clear=3; part 1 1=0");
    }

    private void line() {
        promise = 6;
        says("Adds a line to the draft", PAIR, ENDS_0_1, "least=0; line 1 0 4=0; least=4; place 0 9=0; told 0 4=1; "
                + "ofLink 0 0=4; line 0 1 4=index");
        says("need: 1 to 20", PAIR, ENDS_0_1, "line 0 1 1=0; least=1; clear=2; ", ENDS_0_1, "line 0 1 20=0; least=20");
        says("Returns its number, 0 to 2", "part 1 1=0; part 1 2=1; line 1 0 5=0; part 1 4=2; line 1 2 0=argument; "
                + "line 1 2 5=1; line 0 2 5=2; clear=3; part 1 1=0; part 1 2=1; line 0 1 5=0");
        says("Throws IndexOutOfBoundsException if there is no such part, of both", "line 0 0 5=index; line 0 1 5=index; "
                + "part 1 1=0; line 0 1 5=index; line 1 0 5=index; line 1 1 5=index; part 1 1=1; line 0 2 5=index; "
                + "line 2 3 5=index; line -1 1 5=index; line 1 -1 5=index; line 2147483647 0 5=index; "
                + "line 0 -2147483648 5=index; line 0 1 5=0; clear=2; line 0 1 5=index");
        says("Throws IllegalArgumentException if both are the same", ENDS_0_1, "line 0 0 5=argument; line 1 1 5=argument; "
                + "line 0 1 5=0; line 0 0 5=argument");
        says("or need is out of range", ENDS_0_1, "line 0 1 0=argument; line 0 1 21=argument; line 0 1 -1=argument; "
                + "line 0 1 2147483647=argument; line 0 1 -2147483648=argument; line 0 1 5=0");
        says("Throws IllegalStateException if there is one for both", "part 1 1=0; part 1 1=1; part 1 1=2; line 2 1 5=0; "
                + "line 2 1 5=state; line 1 2 6=state; line 0 2 5=1; line 1 0 5=2; line 0 1 5=state; line 2 0 5=state; "
                + "line 1 2 5=state; clear=3; ", ENDS_0_1, "line 0 1 5=0");
    }

    private void clear() {
        promise = 7;
        says("Empties the draft", PAIR, ENDS_0_1, "line 0 1 5=0; least=5; clear=2; least=-1; place 0 9=state; "
                + "line 0 1 5=index; ", ENDS_0_1, "least=0; place 0 9=0; told 0 4=0; clear=0; told 0 3=2");
        says("Returns how many parts it had", "clear=0; part 1 1=0; clear=1; part 1 1=0; part 1 1=1; clear=2; part 1 1=0; "
                + "part 1 1=1; part 1 1=2; part 1 1=state; clear=3; clear=0");
        says("Returns how many parts it had", TWELVE, "clear=0; part 1 1=0; clear=1; clear=0");
    }

    private void place() {
        promise = 8;
        says("Places the draft, which is empty then, if it can be placed", PAIR, ENDS_0_1, "line 0 1 5=0; place 0 9=0; "
                + "clear=0; least=-1; place 0 9=state; line 0 1 1=index; ofNode 0 1=1; ofNode 1 0=98; ofLink 0 0=5; at 0 1=1");
        says("manner: PLAIN to SAFE", "node 9=0; part 1 1=0; place 0 9=0; part 1 1=0; place 1 9=1; part 1 1=0; place 2 9=2; "
                + "told 0 1=0; told 1 1=1; told 2 1=2");
        says("ticks: 1 to 100: for how long", "node 9=0; part 1 1=0; place 0 1=0; part 1 1=0; place 0 100=1; pass 1=1; "
                + "told 0 0=1; part 1 1=0; place 0 100=2; pass 98=99; told 1 0=0; pass 1=100; told 1 0=1; told 2 0=0; "
                + "pass 1=101; told 2 0=1");
        says("Returns the number of the request", "node 9=0; part 1 1=0; place 0 9=0; part 1 1=0; place 1 9=1; end 0=nothing; "
                + "part 10 1=0; place 0 9=-1; clear=1; part 1 1=0; place 2 9=2");
        says("NONE if it cannot be, and the draft stays", PAIR, "part 20 1=0; part 1 2=1; line 0 1 20=0; node 19=2; "
                + "part 20 4=2; place 0 9=-1; place 1 9=-1; place 2 9=-1; told 0 0=index; least=-1; clear=3; ", ENDS_0_1,
                "line 0 1 20=0; place 2 9=-1; least=20; ofNode 0 1=0; ofLink 0 0=0; place 0 9=0; told 0 4=1; ofLink 0 0=20");
        says("NONE if it cannot be, and the draft stays", RING, ENDS_0_1, "line 0 1 20=0; place 0 9=-1; place 2 9=-1; "
                + "fail 3 true=0; place 1 9=-1; fail 3 false=0; ofLink 0 0=0; place 1 9=0; ofLink 0 0=10; ofLink 3 0=10");
        says("Throws IllegalArgumentException if manner", "node 9=0; part 1 1=0; place 3 9=argument; place -1 9=argument; "
                + "place 2147483647 9=argument; place -2147483648 9=argument; told 0 0=index; clear=1");
        says("or ticks is out of range", "node 9=0; part 1 1=0; place 0 0=argument; place 0 101=argument; "
                + "place 0 -1=argument; place 0 2147483647=argument; place 0 -2147483648=argument; told 0 0=index; clear=1");
        says("Throws IllegalStateException if there are 12", TWELVE, "part 1 1=0; place 0 9=state; place 1 9=state; "
                + "place 2 9=state; end 11=nothing; place 0 9=state; pass 50=50; place 0 9=state; clear=1; told 12 0=index");
        says("or the draft has no part", "place 0 9=state; node 9=0; place 1 9=state; part 1 1=0; clear=1; place 2 9=state; "
                + "part 1 1=0; place 0 9=0; place 0 9=state");
    }

    private void end() {
        promise = 9;
        says("Ends a request", RING, "part 5 1=0; part 6 2=1; line 0 1 7=0; place 2 9=0; end 0=nothing; told 0 0=1; "
                + "ofNode 0 0=20; ofNode 0 1=0; ofNode 1 0=20; ofLink 0 0=0; ofLink 1 1=0; ofLink 2 2=10; load 0 -1=0; "
                + "load 1 0=0");
        says("Ends a request", RING, ENDS_0_1, "line 0 1 13=0; place 1 9=0; ofLink 0 0=10; ofLink 1 0=3; end 0=nothing; "
                + "ofLink 0 0=0; ofLink 1 0=0; ofLink 2 0=0; ofLink 3 0=0");
        says("Throws IndexOutOfBoundsException if there is no such request", "end 0=index; ", TWELVE, "end 12=index; "
                + "end -1=index; end 13=index; end 2147483647=index; end -2147483648=index; ofNode 0 1=12; end 11=nothing; "
                + "end 0=nothing");
        says("Throws IllegalStateException if it has ended", TWELVE, "end 4=nothing; end 4=state; ofNode 0 0=88; "
                + "pass 50=50; end 5=state; end 0=state; end 11=state; ofNode 0 0=99");
    }

    private void move() {
        promise = 10;
        says("Moves a part", RING, "part 3 3=0; part 2 4=1; line 0 1 5=0; place 0 9=0; at 0 0=1; move 0 0 0=2; at 0 0=0; "
                + "at 0 1=2; ofNode 0 0=17; ofNode 0 1=1; ofNode 1 0=20; ofNode 1 1=0; way 0 0 0=3; told 0 7=10; ofLink 0 0=5");
        says("Returns how many links the lines of that part have then, together", RING, "part 1 15=0; part 1 15=1; "
                + "part 1 15=2; line 0 1 1=0; line 0 2 1=1; place 0 9=0; at 0 0=0; at 0 1=1; at 0 2=3; move 0 1 2=2; "
                + "move 0 0 1=3; way 0 0 0=2; way 0 1 0=9; move 0 2 0=1; move 0 1 3=2");
        says("how many links the lines of that part have then, together", "node 9=0; node 9=1; node 9=2; node 9=3; "
                + "link 0 1 9=0; link 1 2 9=1; link 1 3 9=2; part 1 3=0; part 1 4=1; part 1 8=2; line 0 1 1=0; line 0 2 1=1; "
                + "place 0 9=0; at 0 0=1; move 0 0 0=4; way 0 0 0=3; way 0 1 0=5; part 1 63=0; place 0 9=1; move 1 0 3=0");
        says("NONE if it cannot be", RING, "node 1=4; part 2 3=0; part 1 4=1; line 0 1 6=0; place 0 9=0; move 0 0 2=-1; "
                + "move 0 0 4=-1; move 0 1 0=-1; fail 3 true=0; fail 0 true=0; move 0 0 0=-1; at 0 0=1; way 0 0 0=2; "
                + "ofNode 1 0=18; ofNode 0 0=20; ofLink 1 0=6; told 0 7=6; fail 0 false=0; move 0 0 0=2");
        says("NONE if it cannot be", RING, "part 1 1=0; part 1 2=1; part 1 12=2; line 0 1 3=0; line 1 2 4=1; line 2 0 5=2; "
                + "place 0 9=0; at 0 2=3; fail 1 true=0; fail 2 true=0; move 0 2 2=-1; at 0 2=3; way 0 0 0=1; way 0 1 0=9; "
                + "way 0 2 0=8; ofLink 3 0=9; ofLink 0 0=7; ofLink 1 0=0; told 0 7=16; fail 1 false=0; move 0 2 2=3");
        says("Throws IndexOutOfBoundsException if there is no such request", TWELVE, "node 9=1; move 12 0 1=index; "
                + "move -1 0 1=index; move 2147483647 0 1=index; move -2147483648 0 1=index; move 11 0 1=-1");
        says("part of it", TWELVE, "node 9=1; move 0 1 1=index; move 0 -1 1=index; move 0 2147483647 1=index; "
                + "move 0 -2147483648 1=index; part 1 1=0; part 1 1=1; move 0 1 1=index");
        says("or node", "node 9=0; part 1 63=0; place 0 9=0; move 0 0 1=index; move 0 0 -1=index; move 0 0 5=index; "
                + "move 0 0 6=index; move 0 0 32=index; move 0 0 2147483647=index; move 0 0 -2147483648=index; node 9=1; "
                + "move 0 0 1=0");
        says("Throws IllegalArgumentException if the part is there already", "node 9=0; node 9=1; part 1 3=0; part 1 3=1; "
                + "place 0 9=0; move 0 0 0=argument; move 0 1 1=argument; end 0=nothing; move 0 0 0=argument; part 1 1=0; "
                + "place 2 9=1; move 1 0 0=argument");
        says("Throws IllegalStateException if the request has ended", "node 9=0; node 9=1; part 1 3=0; place 0 2=0; "
                + "part 1 3=0; place 0 2=1; move 0 0 1=0; end 0=nothing; move 0 0 0=state; pass 2=2; move 1 0 1=state; "
                + "at 0 0=1; at 1 0=0");
        says("is SAFE", RING, "part 1 3=0; place 2 9=0; move 0 0 1=state; part 1 3=0; part 1 4=1; line 0 1 1=0; place 2 9=1; "
                + "at 1 0=1; move 1 0 0=state; move 1 1 3=state; at 0 0=0; at 1 0=1");
        says("or has a line that is split", RING, "part 1 1=0; part 1 4=1; part 1 63=2; line 0 1 11=0; line 1 2 1=1; "
                + "place 1 9=0; way 0 0 1=12; way 0 1 1=0; at 0 2=3; move 0 2 1=state; move 0 0 1=state; at 0 2=3; "
                + "end 0=nothing; part 1 1=0; part 1 6=1; line 0 1 10=0; place 1 9=1; at 1 1=1; move 1 1 2=2");
    }

    private void pass() {
        promise = 11;
        says("Lets ticks pass", "node 9=0; part 9 1=0; place 0 3=0; pass 1=1; pass 1=2; ofNode 0 0=0; pass 1=3; ofNode 0 0=9");
        says("Lets ticks pass", TWELVE, "pass 49=49; ofNode 0 1=12; pass 1=50; ofNode 0 1=0; ofNode 0 0=99; told 0 0=1; "
                + "told 11 0=1");
        says("ticks: 1 to 100", "pass 1=1; pass 100=101; pass 99=200; pass 2=202");
        says("Returns the tick then", "pass 7=7; now=7; pass 100=107; pass 0=argument; pass 1=108; now=108");
        says("Throws IllegalArgumentException if ticks is out of range", "node 9=0; part 1 1=0; place 0 1=0; pass 0=argument; "
                + "pass 101=argument; pass -1=argument; pass 2147483647=argument; pass -2147483648=argument; now=0; told 0 0=0");
    }

    private void now() {
        promise = 12;
        says("Returns the tick", "now=0; pass 1=1; now=1; pass 100=101; now=101; now=101; node 9=0; part 1 1=0; "
                + "place 0 100=0; end 0=nothing; now=101; pass 101=argument; now=101");
    }

    private void ofNode() {
        promise = 13;
        says("0 its room that is left", "node 1=0; node 99=1; node 20=2; ofNode 0 0=1; ofNode 1 0=99; part 20 4=0; "
                + "part 1 1=1; place 0 9=0; ofNode 2 0=0; ofNode 0 0=0; ofNode 1 0=99; end 0=nothing; ofNode 2 0=20");
        says("1 how many parts are there", TWELVE, "ofNode 0 1=12; ofNode 0 0=87; end 0=nothing; ofNode 0 1=11; node 9=1; "
                + "ofNode 1 1=0; part 1 1=0; part 1 2=1; ofNode 0 1=11; pass 50=50; ofNode 0 1=0");
        says("what: 0 or 1", "node 9=0; ofNode 0 0=9; ofNode 0 1=0; ofNode 0 2=argument; ofNode 0 -1=argument");
        says("Throws IndexOutOfBoundsException if there is no such node", "ofNode 0 0=index; ofNode 0 1=index; ", SIX,
                "ofNode 5 0=20; ofNode 6 0=index; ofNode -1 0=index; ofNode 2147483647 1=index; ofNode -2147483648 1=index");
        says("Throws IllegalArgumentException if what is out of range", SIX, "ofNode 0 -1=argument; ofNode 5 2=argument; "
                + "ofNode 0 2147483647=argument; ofNode 0 -2147483648=argument; ofNode 6 2=index");
    }

    private void ofLink() {
        promise = 14;
        says("0 the needs of lines there", PAIR, "ofLink 0 0=0; ", ENDS_0_1, "line 0 1 20=0; ofLink 0 0=0; place 0 9=0; "
                + "ofLink 0 0=20; ", ENDS_0_1, "line 0 1 20=0; place 0 9=1; ofLink 0 0=40; ", ENDS_0_1, "line 0 1 10=0; "
                + "place 0 9=2; ofLink 0 0=50; ofLink 0 2=0; end 1=nothing; ofLink 0 0=30");
        says("1 what is reserved", RING, ENDS_0_1, "line 0 1 10=0; ofLink 1 1=0; place 2 9=0; ofLink 0 1=0; ofLink 1 1=10; "
                + "ofLink 3 1=10; ofLink 1 0=0; pass 9=9; ofLink 1 1=0");
        says("2 its room less both", RING, ENDS_0_1, "line 0 1 4=0; place 2 9=0; part 1 2=0; part 1 4=1; line 0 1 6=0; "
                + "place 0 9=1; ofLink 1 0=6; ofLink 1 1=4; ofLink 1 2=0; ofLink 2 2=6; ofLink 0 2=6");
        says("3 whether it has failed (1 or 0)", FULL, "ofLink 8 3=0; fail 8 true=0; ofLink 8 3=1; ofLink 7 3=0; ofLink 0 3=0; "
                + "fail 0 true=0; fail 8 false=0; ofLink 8 3=0; ofLink 0 3=1");
        says("what: 0 to 3", PAIR, "ofLink 0 0=0; ofLink 0 3=0; ofLink 0 4=argument; ofLink 0 -1=argument");
        says("Throws IndexOutOfBoundsException if there is no such link", "ofLink 0 0=index; ", FULL, "ofLink 8 0=0; "
                + "ofLink 9 0=index; ofLink -1 3=index; ofLink 2147483647 0=index; ofLink -2147483648 2=index");
        says("Throws IllegalArgumentException if what is out of range", FULL, "ofLink 0 -1=argument; ofLink 8 4=argument; "
                + "ofLink 0 2147483647=argument; ofLink 0 -2147483648=argument; ofLink 9 4=index");
    }

    private void load() {
        promise = 15;
        says("Returns what would be on a link, if another one alone had failed", RING, ENDS_0_1, "line 0 1 3=0; place 2 9=0; "
                + "fail 0 true=0; fail 2 true=1; load 0 -1=3; load 0 2=3; load 1 -1=0; load 1 2=0; load 1 0=3; load 2 0=3");
        says("the needs of lines whose ways go there", RING, ENDS_0_2, "line 0 1 3=0; place 0 9=0; ", ENDS_0_2,
                "line 0 1 9=0; place 1 9=1; way 1 0 0=12; load 0 -1=3; load 2 -1=9; load 0 2=3; load 2 0=9; end 1=nothing; "
                + "load 2 -1=0; load 0 3=3");
        says("the needs of lines whose ways go there", RING, ENDS_0_2, "line 0 1 13=0; place 1 9=0; load 0 -1=10; "
                + "load 1 -1=10; load 2 -1=3; load 3 -1=3");
        says("but those whose ways have that one", RING, ENDS_0_2, "line 0 1 3=0; place 0 9=0; ", ENDS_0_1, "line 0 1 4=0; "
                + "place 0 9=1; load 0 -1=7; load 0 1=4; load 1 0=0; load 0 3=7");
        says("but those whose ways have that one", RING, ENDS_0_2, "line 0 1 13=0; place 1 9=0; load 0 1=0; load 0 2=0; "
                + "load 2 0=0; load 3 2=0");
        says("and of these the needs of those whose second way goes there", RING, ENDS_0_1, "line 0 1 3=0; place 2 9=0; ",
                ENDS_0_1, "line 0 1 4=0; place 2 9=1; ", ENDS_0_1, "line 0 1 2=0; place 0 9=2; part 1 4=0; part 1 8=1; "
                + "line 0 1 1=0; place 0 9=3; load 2 0=8; load 1 0=7; load 2 3=1; load 3 2=0; load 0 2=9");
        says("the needs of lines whose ways go there", RING, "part 1 1=0; part 1 2=1; part 1 4=2; line 0 1 6=0; line 1 2 7=1; "
                + "place 2 9=-1; load 0 -1=0; load 1 -1=0; clear=3; ", ENDS_0_1, "line 0 1 6=0; place 0 9=0; load 0 -1=6; "
                + "load 1 -1=0; load 1 0=0");
        says("failed: a link; NONE for none", PAIR, ENDS_0_1, "line 0 1 5=0; place 0 9=0; load 0 -1=5; load 0 -2=index; "
                + "load 0 1=index; node 9=2; link 1 2 9=1; load 0 1=5; load 1 0=0; load 1 -1=0");
        says("Throws IndexOutOfBoundsException if there is no such link, of both", "load 0 -1=index; load 0 0=index; "
                + "load -1 -1=index; ", FULL, "load 9 -1=index; load -1 0=index; load 0 9=index; load 9 9=index; "
                + "load -1 -1=index; load 0 -2=index; load 2147483647 0=index; load 0 2147483647=index; "
                + "load -2147483648 0=index; load 0 -2147483648=index; load 8 0=0; load 0 8=0");
        says("Throws IllegalArgumentException if both are the same", FULL, "load 0 0=argument; load 8 8=argument; load 8 7=0");
    }

    private void told() {
        promise = 16;
        says("0 whether it has ended (1 or 0)", "node 9=0; part 1 1=0; place 0 2=0; part 1 1=0; place 0 3=1; told 0 0=0; "
                + "pass 1=1; told 0 0=0; pass 1=2; told 0 0=1; told 1 0=0; end 1=nothing; told 1 0=1");
        says("1 its manner", RING, "part 1 1=0; place 0 9=0; ", ENDS_0_1, "line 0 1 1=0; place 1 9=1; ", ENDS_0_1,
                "line 0 1 1=0; place 2 9=2; told 0 1=0; told 1 1=1; told 2 1=2");
        says("2 its time", "node 9=0; pass 100=100; part 1 1=0; place 0 1=0; part 1 1=0; place 0 100=1; told 0 2=101; "
                + "told 1 2=200; pass 1=101; told 0 2=101; told 1 2=200");
        says("3 how many parts, 4 how many lines it has", RING, "part 1 1=0; place 0 9=0; part 1 1=0; part 1 2=1; part 1 4=2; "
                + "line 0 1 1=0; line 1 2 1=1; line 2 0 1=2; place 0 9=1; told 0 3=1; told 0 4=0; told 1 3=3; told 1 4=3");
        says("5 how many of these do not run", RING, "part 1 1=0; part 1 2=1; part 1 4=2; line 0 1 1=0; line 1 2 1=1; "
                + "line 2 0 1=2; place 0 9=0; told 0 5=0; fail 0 true=1; told 0 5=2; fail 1 true=1; told 0 5=3; told 0 6=0");
        says("6 how many run on their second way", RING, "part 1 1=0; part 1 2=1; part 1 4=2; line 0 1 2=0; line 0 2 2=1; "
                + "place 2 9=0; told 0 6=0; fail 0 true=0; told 0 6=2; told 0 5=0; fail 0 false=0; fail 1 true=0; told 0 6=1; "
                + "fail 3 true=1; told 0 6=0; told 0 5=1; fail 0 true=1; told 0 5=2");
        says("7 the cost of its ways", RING, "part 1 1=0; place 0 9=0; told 0 7=0; ", ENDS_0_2, "line 0 1 5=0; place 2 9=1; "
                + "told 1 7=10; part 1 1=0; part 1 2=1; part 1 4=2; line 0 1 3=0; line 1 2 4=1; place 0 9=2; told 2 7=7; "
                + "fail 0 true=1; told 2 7=7");
        says("of a split line each part of the need by its way", RING, ENDS_0_1, "line 0 1 13=0; place 1 9=0; told 0 7=19; "
                + "told 0 4=1; fail 0 true=1; told 0 7=19");
        says("what: 0 to 7", "node 9=0; part 1 1=0; place 0 9=0; told 0 0=0; told 0 7=0; told 0 8=argument; told 0 -1=argument");
        says("Throws IndexOutOfBoundsException if there is no such request", "told 0 0=index; part 1 1=0; told 0 0=index; "
                + "clear=1; ", TWELVE, "told 11 0=0; told 12 0=index; told -1 0=index; told 13 0=index; "
                + "told 2147483647 7=index; told -2147483648 0=index");
        says("Throws IllegalArgumentException if what is out of range", TWELVE, "told 0 8=argument; told 11 -1=argument; "
                + "told 0 2147483647=argument; told 0 -2147483648=argument; told 12 8=index; end 0=nothing; told 0 8=argument");
    }

    private void toldOfEnded() {
        says("of one that has ended by what it had", RING, "part 1 1=0; part 1 2=1; part 1 4=2; line 0 1 2=0; line 0 2 2=1; "
                + "place 2 7=0; end 0=nothing; told 0 0=1; told 0 1=2; told 0 2=7; told 0 3=3; told 0 4=2; told 0 5=0; "
                + "told 0 6=0; told 0 7=6; fail 0 true=0; told 0 6=2; fail 2 true=0; told 0 5=2; told 0 6=0");
        says("of one that has ended by what it had", RING, ENDS_0_1, "line 0 1 13=0; place 1 1=0; fail 1 true=1; told 0 5=1; "
                + "pass 1=1; told 0 0=1; told 0 1=1; told 0 2=1; told 0 5=1; told 0 6=0; told 0 7=19; fail 1 false=0; "
                + "told 0 5=0; pass 100=101; told 0 2=1");
    }

    private void at() {
        promise = 17;
        says("Returns the node of a part of a request", SIX, "part 1 32=0; part 1 1=1; part 1 16=2; place 0 9=0; at 0 0=5; "
                + "at 0 1=0; at 0 2=4; part 1 3=0; place 0 9=1; at 1 0=0; move 1 0 1=0; at 1 0=1; end 1=nothing; at 1 0=1; "
                + "at 0 0=5");
        says("Throws IndexOutOfBoundsException if there is no such request", "at 0 0=index; part 1 1=0; at 0 0=index; clear=1; ",
                TWELVE, "at 11 0=0; at 12 0=index; at -1 0=index; at 2147483647 0=index; at -2147483648 0=index");
        says("or part of it", SIX, "part 1 1=0; part 1 2=1; place 0 9=0; part 1 1=0; part 1 2=1; part 1 4=2; place 0 9=1; "
                + "part 1 1=0; at 0 1=1; at 0 2=index; at 1 2=2; at 1 3=index; at 0 -1=index; at 0 2147483647=index; "
                + "at 0 -2147483648=index; end 0=nothing; at 0 1=1; at 0 2=index");
    }

    private void way() {
        promise = 18;
        says("Returns the links of a way of a line of a request, as bits", FULL, "part 1 1=0; part 1 16=1; line 0 1 1=0; "
                + "place 0 9=0; way 0 0 0=256; part 1 16=0; part 1 32=1; line 0 1 1=0; place 0 9=1; way 1 0 0=16; "
                + "fail 4 true=1; end 1=nothing; way 1 0 0=16; part 1 16=0; part 1 32=1; line 0 1 1=0; place 0 9=2; "
                + "way 2 0 0=288");
        says("0 its way, 1 the other one of a split line", RING, ENDS_0_1, "line 0 1 11=0; place 1 9=0; way 0 0 0=1; "
                + "way 0 0 1=14; way 0 0 2=0; end 0=nothing; way 0 0 1=14");
        says("2 its second way", RING, ENDS_0_1, "line 0 1 10=0; place 2 9=0; way 0 0 0=1; way 0 0 1=0; way 0 0 2=14; "
                + "end 0=nothing; way 0 0 2=14");
        says("which: 0 its way", PAIR, ENDS_0_1, "line 0 1 1=0; place 0 9=0; way 0 0 0=1; way 0 0 2=0; way 0 0 3=argument; "
                + "way 0 0 -1=argument");
        says("0 if it has none such", RING, ENDS_0_1, "line 0 1 1=0; place 0 9=0; way 0 0 1=0; way 0 0 2=0; ", ENDS_0_1,
                "line 0 1 1=0; place 1 9=1; way 1 0 1=0; way 1 0 2=0; ", ENDS_0_1, "line 0 1 11=0; place 2 9=-1; place 1 9=2; "
                + "way 2 0 2=0");
        says("0 if it has none such", RING, "part 1 1=0; part 1 2=1; part 1 4=2; line 0 1 11=0; line 1 2 10=1; place 1 9=-1; "
                + "node 9=4; link 0 4 99=4; link 4 1 99=5; place 0 9=0; way 0 0 0=48; way 0 0 1=0; told 0 7=32; load 0 -1=0; "
                + "move 0 2 1=-1; end 0=nothing; ofLink 0 0=0; ofLink 1 0=0");
        says("0 if it has none such", "node 9=0; node 9=1; node 9=2; link 0 1 9=0; link 0 2 9=1; link 2 1 9=2; node 9=3; "
                + "link 1 3 9=3; part 1 1=0; part 1 2=1; part 1 8=2; line 0 1 2=0; line 1 2 2=1; place 2 9=-1; place 0 9=0; "
                + "way 0 0 0=1; way 0 0 2=0; way 0 1 2=0; ofLink 1 1=0; told 0 6=0; fail 0 true=1; told 0 5=1; told 0 6=0");
        says("0 if it has none such", "node 9=0; node 9=1; node 9=2; link 0 1 9=0; link 1 2 5=1; link 0 2 3=2; part 1 1=0; "
                + "part 1 2=1; part 1 4=2; line 0 1 12=0; line 1 2 3=1; place 1 9=-1; clear=3; ", ENDS_0_1, "line 0 1 9=0; "
                + "place 1 9=0; way 0 0 0=1; way 0 0 1=0; fail 1 true=0; told 0 5=0; told 0 7=9; move 0 0 2=-1");
        says("Returns the links; 0 if it has none such", RING, ENDS_0_1, "line 0 1 3=0; fail 2 true=0; place 2 9=-1; "
                + "fail 2 false=0; part 1 4=2; line 1 2 8=1; place 2 9=-1; place 0 9=0; way 0 0 2=0; way 0 1 2=0; ofLink 1 1=0; "
                + "ofLink 2 1=0; ofLink 3 1=0");
        says("Throws IndexOutOfBoundsException if there is no such request", "way 0 0 0=index; ", PAIR, ENDS_0_1,
                "line 0 1 1=0; way 0 0 0=index; place 0 9=0; way 0 0 0=1; way 1 0 0=index; way -1 0 0=index; "
                + "way 2147483647 0 0=index; way -2147483648 0 0=index");
        says("or line of it", PAIR, "part 1 1=0; place 0 9=0; way 0 0 0=index; ", ENDS_0_1, "line 0 1 1=0; place 0 9=1; ",
                ENDS_0_1, "line 0 1 1=0; way 1 1 0=index; way 1 -1 0=index; way 1 2147483647 0=index; "
                + "way 1 -2147483648 0=index; way 1 0 0=1");
        says("Throws IllegalArgumentException if which is out of range", PAIR, ENDS_0_1, "line 0 1 1=0; place 0 9=0; "
                + "way 0 0 3=argument; way 0 0 -1=argument; way 0 0 2147483647=argument; way 0 0 -2147483648=argument; "
                + "way 0 1 3=index; way 1 0 3=index; end 0=nothing; way 0 0 3=argument");
    }

    private void least() {
        promise = 19;
        says("Returns the cost of the least mapping of the draft", RING, "part 1 1=0; least=0; part 1 6=1; least=0; "
                + "line 0 1 20=0; least=-1; clear=2; part 1 1=0; part 1 6=1; line 0 1 10=0; least=10; fail 0 true=0; least=20; "
                + "fail 0 false=0; place 0 9=0; told 0 7=10; least=-1");
        says("NONE if there is none", PAIR, "part 1 4=0; least=-1; clear=1; part 1 1=0; part 1 1=1; least=-1; clear=2; ",
                ENDS_0_1, "line 0 1 20=0; fail 0 true=0; least=-1; fail 0 false=0; least=20");
        says("or it has no part", "least=-1; node 9=0; least=-1; part 1 1=0; least=0; place 0 9=0; least=-1");
        says("Returns the cost of the least mapping", TWELVE, "part 1 1=0; least=0; clear=1; least=-1");
    }

    private void leastAnew() {
        promise = 20;
        says("Returns the same", RING, "part 1 1=0; leastAnew=0; part 1 6=1; leastAnew=0; line 0 1 20=0; leastAnew=-1; "
                + "clear=2; part 1 1=0; part 1 6=1; line 0 1 10=0; leastAnew=10; fail 0 true=0; leastAnew=20; fail 0 false=0; "
                + "place 0 9=0; leastAnew=-1");
        says("Returns the same", "leastAnew=-1; ", PAIR, "part 1 4=0; leastAnew=-1; clear=1; leastAnew=-1; part 1 1=0; "
                + "part 1 1=1; leastAnew=-1; clear=2; ", ENDS_0_1, "line 0 1 20=0; fail 0 true=0; leastAnew=-1; "
                + "fail 0 false=0; leastAnew=20");
        says("by trying all choices of nodes and all ways of all lines to their ends", FULL, "part 20 63=0; part 20 63=1; "
                + "part 20 63=2; line 0 1 10=0; line 1 2 10=1; line 2 0 10=2; leastAnew=30; least=30; place 0 9=0; at 0 0=0; "
                + "at 0 1=1; at 0 2=2; ofNode 0 0=0; part 20 63=0; part 20 63=1; part 20 63=2; line 0 1 10=0; line 1 2 10=1; "
                + "leastAnew=20; least=20; line 2 0 10=2; leastAnew=40; least=40");
    }

    private void freeing() {
        promise = 21;
        says("Finds the move of one part that lets the draft in, PLAIN", "node 20=0; node 20=1; part 5 3=0; place 0 9=0; "
                + "part 16 1=0; freeing=1; least=-1; at 0 0=0; move 0 0 1=0; freeing=-1; place 0 9=1");
        says("lets the draft in, PLAIN", RING, ENDS_0_1, "line 0 1 5=0; place 0 9=0; part 1 1=0; part 1 8=1; line 0 1 3=0; "
                + "place 0 9=1; ", ENDS_0_1, "line 0 1 6=0; least=18; fail 1 true=0; least=-1; freeing=-1; fail 1 false=0; "
                + "fail 0 true=1; part 1 4=2; line 0 2 8=1; freeing=-1");
        says("that of the part with the least need", "node 20=0; node 20=1; part 5 3=0; place 0 9=0; part 4 3=0; "
                + "place 0 9=1; part 12 1=0; freeing=101; clear=1; part 15 1=0; freeing=101; clear=1; part 16 1=0; freeing=1; "
                + "clear=1; part 17 1=0; freeing=-1");
        says("that of the part with the least need", "node 99=0; node 20=1; part 20 3=0; place 0 9=0; part 19 1=0; "
                + "place 0 9=1; part 20 1=0; place 0 9=2; part 20 1=0; place 0 9=3; part 1 3=0; place 0 9=4; part 20 1=0; "
                + "freeing=401; clear=1; part 1 1=0; place 0 9=5; part 20 1=0; freeing=1; move 4 0 1=0; freeing=-1; least=-1");
        says("of several of the lowest request", "node 20=0; node 20=1; part 4 1=0; place 0 9=0; part 4 3=0; place 0 9=1; "
                + "part 4 3=0; place 0 9=2; part 12 1=0; freeing=101; end 1=nothing; clear=1; part 13 1=0; freeing=201");
        says("request, part, node", SIX, "part 4 49=0; part 4 57=1; place 0 9=0; at 0 0=0; at 0 1=3; part 17 1=0; freeing=4; "
                + "clear=1; part 17 8=0; freeing=14; clear=1; part 17 1=0; part 20 16=1; freeing=5; clear=2; part 17 8=0; "
                + "part 20 16=1; freeing=15");
        says("of the lowest request, part, node", "node 20=0; node 20=1; node 20=2; part 4 5=0; part 4 6=1; place 0 9=0; "
                + "part 4 3=0; place 0 9=1; at 1 0=0; part 12 3=0; part 17 3=1; freeing=12; clear=2; part 17 1=0; freeing=-1; "
                + "clear=1; part 15 1=0; freeing=2; clear=1; part 17 2=0; freeing=12");
        says("Returns 100 times the request, 10 times the part, and the node, together", TWELVE, "node 20=1; end 11=nothing; "
                + "freeing=-1; end 0=nothing; part 20 2=0; part 1 2=1; freeing=-1");
        says("Returns 100 times the request, 10 times the part, and the node, together", lastOfEach(), "freeing=1125; "
                + "move 11 2 5=0; freeing=-1; least=0");
    }

    /** A draft that only the move of part 2 of request 11 to node 5 lets in. */
    private static String lastOfEach() {
        StringBuilder calls = new StringBuilder("node 99=0; node 99=1; node 20=2; node 1=3; node 1=4; node 20=5; ");
        for (int request = 0; request < 11; request++) {
            calls.append("part 1 1=0; place 0 9=").append(request).append("; ");
        }
        return calls + "part 1 1=0; part 1 2=1; part 2 36=2; place 0 9=11; part 19 4=0; ";
    }

    private void freeingNone() {
        says("NONE if there is none", "node 9=0; node 9=1; part 5 1=0; place 0 9=0; part 5 1=0; freeing=-1; clear=1; "
                + "part 5 3=0; place 0 9=1; at 1 0=1; part 5 2=0; freeing=-1; clear=1; part 10 2=0; freeing=-1");
        says("NONE if there is none", RING, "part 3 3=0; place 2 9=0; part 18 1=0; freeing=-1; end 0=nothing; clear=1; "
                + "part 3 3=0; place 0 1=1; part 18 1=0; freeing=101; pass 1=1; freeing=-1; least=0; clear=1; part 1 1=0; "
                + "part 1 4=1; part 3 10=2; line 0 1 11=0; place 1 9=2; at 2 2=1; part 18 2=0; freeing=-1");
        says("NONE if there is none", "node 9=0; node 20=1; part 5 1=0; place 0 9=0; part 6 3=0; part 6 1=1; least=-1; "
                + "freeing=-1; place 0 9=-1; freeing=-1; end 0=nothing; freeing=-1; least=0");
        says("NONE if there is none", "node 9=0; part 9 1=0; freeing=-1; clear=1; part 10 1=0; freeing=-1; clear=1; part 1 2=0; "
                + "freeing=-1");
        says("if it can be placed already", "node 20=0; node 20=1; part 5 3=0; place 0 9=0; part 15 1=0; freeing=-1; least=0; "
                + "clear=1; part 16 3=0; freeing=-1; least=0; clear=1; part 16 1=0; freeing=1; end 0=nothing; freeing=-1");
        says("or if it has no part", "freeing=-1; node 20=0; node 20=1; part 5 3=0; place 0 9=0; freeing=-1; part 16 1=0; "
                + "freeing=1; clear=1; freeing=-1");
    }
}

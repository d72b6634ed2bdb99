/** Runs of calls for each promise: what is ordinary, its edges, and wrong inputs. */
public final class PromisesTest {
    private static final String RING = Runs.RING;
    private static final String TWISTED = Runs.TWISTED;
    private static final String PAIR = Runs.PAIR;
    private static final String ENDS_0_1 = Runs.ENDS_0_1;
    private static final String ENDS_0_2 = Runs.ENDS_0_2;

    private static final Runs RUNS = new Runs();

    public static void main(String[] args) {
        newObject();
        ground();
        failing();
        drafts();
        placing();
        mappings();
        split();
        safe();
        ending();
        moving();
        asking();
        leasts();
        freeing();
        RUNS.end();
    }

    private static void run(int promise, String about, String... calls) {
        RUNS.run("promise " + promise + ", " + about, calls);
    }

    private static void newObject() {
        run(1, "nothing is there", "now=0; ofNode 0 0=index; ofLink 0 0=index; told 0 0=index; at 0 0=index; "
                + "way 0 0 0=index; load 0 -1=index; least=-1; leastAnew=-1; freeing=-1; place 0 1=state; "
                + "line 0 1 1=index; fail 0 true=index; end 0=index; move 0 0 0=index; clear=0; node 1=0");
        run(1, "another object has nothing of the last", "node 1=0; part 1 1=0; place 0 1=0; pass 1=1; now=1");
        run(1, "another object has nothing of the last", "now=0; ofNode 0 0=index; told 0 0=index; clear=0");
    }

    private static void ground() {
        run(2, "rooms from 1 to 99", "node 1=0; node 99=1; node 0=argument; node 100=argument; node -1=argument; "
                + "node 2147483647=argument; node -2147483648=argument; ofNode 0 0=1; ofNode 1 0=99; ofNode 2 0=index");
        run(2, "at most 6", "node 1=0; node 2=1; node 3=2; node 4=3; node 5=4; node 6=5; node 7=state; "
                + "node 0=argument; ofNode 5 0=6; ofNode 6 0=index");
        run(3, "rooms from 1 to 99", "node 9=0; node 9=1; node 9=2; link 0 1 0=argument; link 0 1 100=argument; "
                + "link 0 1 -5=argument; link 0 1 1=0; link 1 2 99=1; ofLink 0 2=1; ofLink 1 2=99; ofLink 2 0=index");
        run(3, "the first exception goes", "node 9=0; link 0 1 0=index; link 1 0 5=index; link -1 0 5=index; "
                + "link 0 -1 5=index; link 5 5 5=index; link 0 0 5=argument; node 9=1; link 0 1 5=0; "
                + "link 0 1 0=argument; link 1 1 5=argument; link 0 1 5=state; link 1 0 5=state; link 0 2 5=index; "
                + "link 2147483647 0 5=index; link -2147483648 0 5=index");
        run(3, "at most 9", "node 9=0; node 9=1; node 9=2; node 9=3; node 9=4; link 0 1 5=0; link 0 2 5=1; "
                + "link 0 3 5=2; link 0 4 5=3; link 1 2 5=4; link 1 3 5=5; link 1 4 5=6; link 2 3 5=7; link 2 4 5=8; "
                + "link 3 4 5=state; link 3 4 0=argument; link 3 5 5=index; link 3 3 5=argument; ofLink 8 2=5; "
                + "ofLink 9 2=index");
        run(3, "a link bears ways from then on", PAIR, "node 99=2; part 1 1=0; part 1 4=1; line 0 1 5=0; least=-1; "
                + "link 2 1 7=1; least=10; link 0 2 5=2; least=5");
    }

    private static void failing() {
        run(4, "no such link", "fail 0 true=index; fail -1 true=index; ", PAIR, "fail 1 true=index; fail 0 true=0; "
                + "ofLink 0 3=1; fail 0 true=0; ofLink 0 3=1; fail 0 false=0; ofLink 0 3=0; fail 0 false=0; "
                + "fail -1 false=index; fail 1 false=index");
        run(4, "requests with a line that does not run", RING, ENDS_0_1, "line 0 1 2=0; place 0 9=0; ",
                ENDS_0_1, "line 0 1 3=0; place 0 9=1; ", "part 1 63=0; place 0 9=2; ",
                "fail 3 true=0; fail 0 true=2; told 0 5=1; told 1 5=1; told 2 5=0; fail 3 true=2; fail 3 false=2; "
                + "end 0=nothing; fail 0 true=1; told 0 5=1; fail 0 false=0; told 0 5=0; told 1 5=0");
        run(4, "a request counts once for all its lines", RING, "part 1 1=0; part 1 2=1; part 1 4=2; line 0 1 2=0; "
                + "line 1 2 2=1; place 0 9=0; fail 0 true=1; told 0 5=1; fail 1 true=1; told 0 5=2; fail 0 false=1; "
                + "told 0 5=1; fail 1 false=0");
        run(4, "a safe line goes over to its second way", RING, ENDS_0_1, "line 0 1 2=0; place 2 9=0; way 0 0 0=1; "
                + "way 0 0 2=14; told 0 6=0; fail 0 true=0; told 0 6=1; told 0 5=0; fail 2 true=1; told 0 6=0; "
                + "told 0 5=1; fail 0 false=0; told 0 6=0; told 0 5=0");
        run(4, "a split line stops with either of its ways", RING, ENDS_0_1, "line 0 1 12=0; place 1 9=0; "
                + "way 0 0 0=1; way 0 0 1=14; fail 2 true=1; told 0 5=1; fail 2 false=0; fail 0 true=1; told 0 6=0");
        run(4, "no new way goes on it, and what was there stays", RING, ENDS_0_1, "line 0 1 2=0; place 0 9=0; ",
                "fail 0 true=1; ofLink 0 0=2; ofLink 0 2=8; ", ENDS_0_1, "line 0 1 2=0; least=6; leastAnew=6; "
                + "place 0 9=1; way 1 0 0=14; fail 0 false=0; way 0 0 0=1; way 1 0 0=14");
        run(4, "the room behind a link that failed stays", RING, ENDS_0_1, "line 0 1 6=0; place 2 9=0; "
                + "fail 0 true=0; ofLink 2 0=0; ofLink 2 1=6; ofLink 2 2=4; fail 2 true=1; ofLink 2 1=6");
    }

    private static void drafts() {
        run(5, "needs from 1 to 20, nodes from 1 to 63", "part 0 1=argument; part 21 1=argument; part 1 0=argument; "
                + "part 1 64=argument; part -1 1=argument; part 1 -1=argument; part 1 1=0; part 20 63=1; part 5 32=2; "
                + "part 1 1=state; part 0 1=argument; part 1 64=argument; clear=3; part 1 1=0");
        run(5, "nodes may be named before they are there", "part 1 2=0; node 9=0; least=-1; place 0 1=-1; "
                + "node 9=1; least=0; place 0 1=0; at 0 0=1");
        run(6, "which exception goes", "line 0 1 1=index; part 1 1=0; line 0 1 1=index; line 0 0 1=argument; "
                + "line 1 1 1=index; part 1 1=1; line 0 1 0=argument; line 0 1 21=argument; line 0 1 -3=argument; "
                + "line -1 0 5=index; line 0 -1 5=index; line 0 2 0=index; line 0 1 20=0; line 0 1 5=state; "
                + "line 1 0 5=state; line 0 1 0=argument; line 0 0 5=argument; line 0 2 5=index");
        run(6, "one for each two parts", "part 1 63=0; part 1 63=1; part 1 63=2; line 2 0 1=0; line 0 1 20=1; "
                + "line 1 2 1=2; line 2 1 1=state; line 0 2 1=state; line 1 0 1=state; line 1 3 1=index");
        run(6, "lines are told by the request", RING, "part 1 1=0; part 1 2=1; part 1 4=2; line 2 1 3=0; line 0 1 4=1; "
                + "place 0 1=0; told 0 4=2; way 0 0 0=2; way 0 1 0=1; way 0 2 0=index");
        run(7, "how many parts it had", "clear=0; part 1 1=0; clear=1; clear=0; part 1 1=0; part 1 2=1; line 0 1 1=0; "
                + "clear=2; part 1 1=0; part 1 2=1; line 0 1 1=0; part 1 1=2; clear=3; place 0 1=state; least=-1");
        run(7, "the lines go too", PAIR, ENDS_0_1, "line 0 1 5=0; clear=2; ", ENDS_0_1, "least=0; place 0 1=0; "
                + "told 0 3=2; told 0 4=0; way 0 0 0=index; ofLink 0 0=0");
    }

    private static void placing() {
        run(8, "manner and ticks", PAIR, "place -1 1=argument; place 3 1=argument; place 0 0=argument; "
                + "place 0 101=argument; place 0 -1=argument; place 0 1=state; place 1 1=state; place 2 1=state; "
                + "part 1 1=0; place 3 1=argument; place 0 101=argument; place 2 100=0; told 0 1=2; told 0 2=100; "
                + "part 1 1=0; place 1 1=1; told 1 1=1; told 1 2=1; part 1 1=0; place 0 1=2; told 2 1=0; place 0 1=state");
        run(8, "at most 12, the ended too", "node 99=0; part 1 1=0; place 0 1=0; pass 1=1; part 1 1=0; place 0 5=1; "
                + "part 1 1=0; place 0 5=2; part 1 1=0; place 0 5=3; part 1 1=0; place 0 5=4; part 1 1=0; place 0 5=5; "
                + "part 1 1=0; place 0 5=6; part 1 1=0; place 0 5=7; part 1 1=0; place 0 5=8; part 1 1=0; place 0 5=9; "
                + "part 1 1=0; place 0 5=10; part 1 1=0; place 0 5=11; place 0 5=state; part 2 1=0; place 0 5=state; "
                + "place 3 5=argument; least=0; leastAnew=0; clear=1; told 11 2=6; told 12 0=index; ofNode 0 1=11; "
                + "end 11=nothing; part 1 1=0; place 0 5=state; part 1 3=1; line 0 1 4=0; clear=2; pass 5=6; "
                + "ofNode 0 0=99; told 11 0=1");
        run(8, "the draft is empty then, or stays", "node 5=0; part 6 1=0; place 0 1=-1; told 0 0=index; place 1 1=-1; "
                + "place 2 1=-1; clear=1; part 5 1=0; place 0 1=0; clear=0; part 1 1=0; place 0 1=-1; clear=1");
        run(8, "the time is counted from now", "node 9=0; pass 7=7; part 1 1=0; place 0 5=0; told 0 2=12; pass 4=11; "
                + "told 0 0=0; pass 1=12; told 0 0=1; told 0 2=12");
    }

    private static void mappings() {
        run(8, "each part at another node, the lower node for the first", "node 9=0; node 9=1; node 9=2; part 1 63=0; "
                + "part 1 63=1; part 1 63=2; place 0 1=0; at 0 0=0; at 0 1=1; at 0 2=2");
        run(8, "no two parts of a request at one node", "node 99=0; part 1 63=0; part 1 63=1; least=-1; place 0 1=-1; "
                + "place 1 1=-1; place 2 1=-1; node 99=1; place 0 1=0; at 0 0=0; at 0 1=1");
        run(8, "where it may be and where there is room", "node 4=0; node 9=1; node 9=2; part 5 63=0; place 0 9=0; "
                + "at 0 0=1; part 5 63=0; place 0 9=1; at 1 0=2; part 4 63=0; place 0 9=2; at 2 0=0; part 4 6=0; "
                + "place 0 9=3; at 3 0=1; part 5 63=0; place 0 9=-1; clear=1; part 4 61=0; place 0 9=4; at 4 0=2");
        run(8, "the least cost goes before the lower node", RING, "part 1 1=0; part 1 12=1; line 0 1 3=0; least=3; "
                + "place 0 9=0; at 0 1=3; way 0 0 0=8; told 0 7=3");
        run(8, "the lower node for the second part", RING, "part 1 1=0; part 1 10=1; line 0 1 3=0; place 0 9=0; at 0 1=1");
        run(8, "the first part's node goes before the second's", RING, "part 1 10=0; part 1 5=1; line 1 0 3=0; "
                + "place 0 9=0; at 0 0=1; at 0 1=0");
        run(8, "of two ways that which goes first", RING, ENDS_0_2, "line 0 1 3=0; least=6; place 0 9=0; way 0 0 0=3");
        run(8, "the order is by links from the first part on", TWISTED, ENDS_0_2, "line 0 1 3=0; place 0 9=0; "
                + "way 0 0 0=5; end 0=nothing; ", ENDS_0_2, "line 1 0 3=0; place 0 9=1; way 1 0 0=10");
        run(8, "the cost is the need times the links", RING, "link 0 2 2=4; ", ENDS_0_2, "line 0 1 2=0; least=2; "
                + "clear=2; ", ENDS_0_2, "line 0 1 3=0; least=6; place 0 9=0; way 0 0 0=3; told 0 7=6");
        run(8, "a way of more links is taken if the least mapping has it", "node 20=0; node 20=1; node 20=2; "
                + "link 0 1 4=0; link 1 2 9=1; link 0 2 9=2; part 1 1=0; part 1 2=1; part 1 4=2; line 0 1 3=0; "
                + "line 0 2 4=1; least=7; place 0 9=0; way 0 0 0=1; way 0 1 0=4; part 1 1=0; part 1 2=1; line 0 1 2=0; "
                + "least=4; place 0 9=1; way 1 0 0=6");
        run(8, "the needs of all lines of the request together", "node 20=0; node 20=1; node 20=2; link 0 1 5=0; "
                + "link 1 2 5=1; part 1 1=0; part 1 2=1; part 1 4=2; line 0 2 3=0; line 0 1 3=1; least=-1; place 0 9=-1; "
                + "place 2 9=-1; clear=3; part 1 1=0; part 1 2=1; part 1 4=2; line 0 2 3=0; line 0 1 2=1; least=8; "
                + "place 0 9=0; ofLink 0 2=0; ofLink 1 2=2");
        run(8, "a line gives way to another if that is the least", "node 20=0; node 20=1; node 20=2; node 20=3; "
                + "link 0 1 9=0; link 0 2 9=1; link 1 2 9=2; link 1 3 9=3; part 1 1=0; part 1 2=1; part 1 8=2; "
                + "line 0 1 3=0; line 0 2 8=1; least=22; place 0 9=0; way 0 0 0=6; way 0 1 0=9");
        run(8, "no way by a node twice, none by a link that failed", "node 20=0; node 20=1; node 20=2; link 0 1 9=0; "
                + "link 1 2 9=1; ", ENDS_0_2, "line 0 1 5=0; fail 1 true=0; place 0 1=-1; fail 1 false=0; place 0 1=0; "
                + "way 0 0 0=3");
        run(8, "the last of the most ways that there can be", "node 9=0; node 9=1; node 9=2; node 9=3; node 9=4; "
                + "link 0 3 1=0; link 1 3 1=1; link 2 3 9=2; link 0 1 1=3; link 0 2 1=4; link 1 2 1=5; link 0 4 1=6; "
                + "link 1 4 1=7; link 2 4 9=8; part 1 8=0; part 1 16=1; line 0 1 5=0; least=10; leastAnew=10; "
                + "place 0 9=0; way 0 0 0=260");
        run(8, "the room of others is taken, in use or reserved", RING, ENDS_0_1, "line 0 1 6=0; place 2 9=0; ",
                "part 1 4=0; part 1 8=1; line 0 1 5=0; least=-1; place 0 9=-1; clear=2; part 1 4=0; part 1 8=1; "
                + "line 0 1 4=0; least=4; place 0 9=1; ofLink 2 2=0");
    }

    private static void split() {
        run(8, "split only if there is no mapping", RING, ENDS_0_2, "line 0 1 10=0; place 1 9=0; way 0 0 0=3; "
                + "way 0 0 1=0; told 0 1=1; ", ENDS_0_2, "line 0 1 11=0; place 0 9=-1; place 2 9=-1; place 1 9=-1; "
                + "end 0=nothing; place 1 9=1; way 1 0 0=3; way 1 0 1=12; way 1 0 2=0; told 1 7=22; ofLink 0 0=10; "
                + "ofLink 2 0=1; ofLink 3 0=1; told 1 5=0; told 1 6=0");
        run(8, "the greatest least room goes before the fewest links", "node 20=0; node 20=1; node 20=2; link 0 2 3=0; "
                + "link 0 1 5=1; link 1 2 9=2; ", ENDS_0_2, "line 0 1 8=0; place 1 9=0; way 0 0 0=6; way 0 0 1=1; "
                + "told 0 7=13; ofLink 0 0=3; ofLink 1 0=5; ofLink 2 0=5; ofLink 0 2=0; ofLink 1 2=0; ofLink 2 2=4");
        run(8, "the fewest links go before the order", "node 20=0; node 20=1; node 20=2; link 0 1 5=0; link 1 2 5=1; "
                + "link 0 2 5=2; ", ENDS_0_2, "line 0 1 7=0; place 1 9=0; way 0 0 0=4; way 0 0 1=3; told 0 7=9");
        run(8, "the way that goes first, from the first part on", TWISTED, ENDS_0_2, "line 1 0 12=0; place 1 9=0; "
                + "way 0 0 0=10; way 0 0 1=5; end 0=nothing; ", ENDS_0_2, "line 0 1 12=0; place 1 9=1; way 1 0 0=5; "
                + "way 1 0 1=10");
        run(8, "the rest is not split again", RING, "link 0 2 10=4; ", ENDS_0_2, "line 0 1 20=0; place 1 9=0; "
                + "way 0 0 0=16; way 0 0 1=3; end 0=nothing; clear=0; fail 4 true=0; fail 1 true=0; link 1 3 4=5; ",
                ENDS_0_2, "line 0 1 11=0; place 1 9=-1; fail 4 false=0; place 1 9=1; way 1 0 0=16; way 1 0 1=12");
        run(8, "the ways may share a link that has room for both", "node 20=0; node 20=1; node 20=2; node 20=3; "
                + "link 0 1 9=0; link 1 2 3=1; link 1 3 4=2; link 3 2 4=3; ", ENDS_0_2, "line 0 1 7=0; place 1 9=0; "
                + "way 0 0 0=13; way 0 0 1=3; ofLink 0 0=7; ofLink 0 2=2; told 0 7=18; load 0 -1=7; load 0 1=0; "
                + "load 0 2=0; load 1 2=0; load 1 -1=3");
        run(8, "a line takes the fewest links and what lines ahead take is taken", RING, "link 0 2 4=4; part 1 1=0; "
                + "part 1 4=1; part 1 8=2; line 0 1 4=0; line 1 2 14=1; least=-1; place 1 9=0; way 0 0 0=16; way 0 0 1=0; "
                + "way 0 1 0=4; way 0 1 1=11; ofLink 2 0=10; ofLink 0 0=4; ofLink 4 0=4");
        run(8, "the first choice of nodes by which it can be", "node 20=0; node 20=1; node 20=2; node 20=3; "
                + "link 0 1 3=0; link 1 2 6=1; link 2 3 4=2; link 3 1 4=3; part 1 63=0; part 1 63=1; line 0 1 7=0; "
                + "place 1 9=0; at 0 0=1; at 0 1=2; way 0 0 0=2; way 0 0 1=12; told 0 7=8");
        run(8, "a draft without a line that no node takes", "node 3=0; part 4 1=0; place 1 9=-1; clear=1");
        run(8, "split into parts of 1", "node 9=0; node 9=1; node 9=2; link 0 1 1=0; link 1 2 1=1; link 0 2 1=2; ",
                ENDS_0_2, "line 0 1 2=0; place 1 9=0; way 0 0 0=4; way 0 0 1=3; told 0 7=3; ofLink 0 0=1; ofLink 2 0=1");
        run(8, "not split where a line of 1 has no way", "node 3=0; node 3=1; part 1 63=0; part 1 63=1; line 0 1 1=0; "
                + "place 1 9=-1; link 0 1 1=0; place 1 9=0; part 1 63=0; part 1 63=1; line 0 1 1=0; place 1 9=-1; "
                + "ofLink 0 0=1; ofNode 0 1=1");
    }

    private static void safe() {
        run(8, "a second way without a link of the first", RING, ENDS_0_1, "line 0 1 6=0; place 2 9=0; way 0 0 0=1; "
                + "way 0 0 1=0; way 0 0 2=14; told 0 7=6; ofLink 0 1=0; ofLink 1 1=6; ofLink 2 1=6; ofLink 3 1=6");
        run(8, "none without a second way, and nothing is changed", PAIR, ENDS_0_1, "line 0 1 6=0; place 2 9=-1; "
                + "ofLink 0 0=0; ofLink 0 1=0; ofNode 0 0=99; ofNode 1 1=0; told 0 0=index; least=6; place 0 9=0");
        run(8, "the first of several lines has no room behind either", RING, "part 1 1=0; part 1 2=1; part 1 4=2; "
                + "line 0 1 6=0; line 1 2 6=1; least=12; place 2 9=-1; ofLink 0 0=0; ofLink 1 0=0; ofLink 2 1=0; "
                + "ofLink 3 1=0; ofNode 1 1=0; clear=3");
        run(8, "the second line finds none, and what was reserved is free", RING, "link 0 2 10=4; part 1 1=0; "
                + "part 1 2=1; part 1 4=2; line 0 1 4=0; line 1 2 7=1; place 2 9=-1; ofLink 0 1=0; ofLink 1 1=0; "
                + "ofLink 2 1=0; ofLink 3 1=0; ofLink 4 1=0; ofLink 1 0=0; ofNode 0 0=20");
        run(8, "its own needs are needs there", RING, "part 1 1=0; part 1 2=1; part 1 4=2; line 0 1 5=0; line 1 2 5=1; "
                + "place 2 9=0; way 0 0 2=14; way 0 1 2=13; ofLink 0 0=5; ofLink 0 1=5; ofLink 0 2=0; ofLink 1 2=0; "
                + "ofLink 2 1=5; ofLink 3 1=5; ofLink 3 2=5");
        run(8, "room is shared by lines that never fail together", RING, ENDS_0_1, "line 0 1 6=0; place 2 9=0; ",
                "part 1 4=0; part 1 8=1; line 0 1 4=0; place 2 9=1; way 1 0 0=4; way 1 0 2=11; ofLink 1 1=6; "
                + "ofLink 3 1=6; ofLink 0 1=4; ofLink 2 1=6; ofLink 2 2=0; ofLink 0 2=0");
        run(8, "but not by lines that do", RING, ENDS_0_1, "line 0 1 4=0; place 2 9=0; ", ENDS_0_1, "line 0 1 5=0; "
                + "place 2 9=1; ofLink 1 1=9; ofLink 2 1=9; ofLink 0 0=9; ", ENDS_0_1, "line 0 1 1=0; place 2 9=2; "
                + "ofLink 3 1=10; ofLink 3 2=0");
        run(8, "the needs of others are needs there", RING, "part 1 4=0; part 1 8=1; line 0 1 5=0; place 0 9=0; ",
                ENDS_0_1, "line 0 1 6=0; place 2 9=-1; end 0=nothing; place 2 9=1; way 1 0 2=14");
        run(8, "the fewest links, then the order", RING, "link 0 2 10=4; link 1 3 10=5; ", ENDS_0_1, "line 0 1 6=0; "
                + "place 2 9=0; way 0 0 0=1; way 0 0 2=40; end 0=nothing; fail 3 true=0; ", ENDS_0_1, "line 0 1 6=0; "
                + "place 2 9=1; way 1 0 2=18; end 1=nothing; fail 4 true=0; ", ENDS_0_1, "line 0 1 6=0; place 2 9=-1; "
                + "fail 3 false=0; fail 5 true=0; place 2 9=2; way 2 0 2=14");
        run(8, "of two second ways that which goes first, from the first part on", TWISTED, "link 0 2 10=4; ", ENDS_0_2,
                "line 0 1 3=0; place 2 9=0; way 0 0 0=16; way 0 0 2=5; ", ENDS_0_2, "line 1 0 3=0; place 2 9=1; "
                + "way 1 0 0=16; way 1 0 2=10");
        run(8, "parts alone can be safe", "node 5=0; part 1 1=0; place 2 9=0; told 0 1=2; told 0 5=0; told 0 6=0; "
                + "told 0 7=0; ofNode 0 0=4");
        run(8, "not by another mapping than the least", "node 9=0; node 9=1; node 9=2; node 9=3; link 0 1 9=0; "
                + "link 2 3 9=1; link 1 2 9=2; link 1 3 9=3; part 1 63=0; part 1 63=1; line 0 1 2=0; place 2 9=-1; "
                + "clear=2; part 1 62=0; part 1 62=1; line 0 1 2=0; place 2 9=0; at 0 0=1; at 0 1=2; way 0 0 0=4; "
                + "way 0 0 2=10");
    }

    private static void ending() {
        run(9, "it leaves its room", RING, "part 7 1=0; part 8 2=1; line 0 1 5=0; place 2 9=0; ofNode 0 0=13; "
                + "ofNode 1 0=12; ofNode 0 1=1; end 0=nothing; ofNode 0 0=20; ofNode 1 0=20; ofNode 0 1=0; ofLink 0 0=0; "
                + "ofLink 1 1=0; ofLink 2 1=0; ofLink 3 2=10; load 0 -1=0; load 1 0=0; told 0 0=1; told 0 2=9");
        run(9, "no such request, or it has ended", "end 0=index; node 9=0; part 1 1=0; place 0 5=0; end 1=index; "
                + "end -1=index; end 0=nothing; end 0=state; part 1 1=0; place 0 1=1; pass 1=1; end 1=state; end 2=index; "
                + "ofNode 0 0=9; ofNode 0 1=0; pass 9=10; ofNode 0 0=9");
        run(9, "both parts of a split line leave", RING, ENDS_0_2, "line 0 1 15=0; place 1 9=0; end 0=nothing; "
                + "ofLink 0 0=0; ofLink 1 0=0; ofLink 2 0=0; ofLink 3 0=0; way 0 0 0=3; way 0 0 1=12; told 0 7=30");
        run(9, "what others have reserved stays", RING, ENDS_0_1, "line 0 1 4=0; place 2 9=0; ", ENDS_0_1,
                "line 0 1 5=0; place 2 9=1; end 0=nothing; ofLink 1 1=5; ofLink 0 0=5; end 1=nothing; ofLink 1 1=0");
        run(11, "ticks from 1 to 100", "pass 0=argument; pass 101=argument; pass -1=argument; pass 2147483647=argument; "
                + "now=0; pass 1=1; pass 100=101; now=101; pass 99=200; now=200");
        run(11, "requests whose time it is end", "node 20=0; part 1 1=0; place 0 1=0; part 2 1=0; place 0 3=1; "
                + "part 3 1=0; place 0 3=2; part 4 1=0; place 0 100=3; ofNode 0 0=10; pass 1=1; told 0 0=1; told 1 0=0; "
                + "ofNode 0 0=11; pass 1=2; ofNode 0 0=11; pass 1=3; told 1 0=1; told 2 0=1; ofNode 0 0=16; end 2=state; "
                + "pass 96=99; told 3 0=0; pass 1=100; told 3 0=1; ofNode 0 0=20");
        run(11, "in passing over the time too", "node 20=0; part 1 1=0; place 0 5=0; pass 100=100; told 0 0=1; "
                + "told 0 2=5; ofNode 0 1=0; part 1 1=0; place 0 5=1; told 1 2=105; pass 4=104; told 1 0=0; pass 2=106; "
                + "told 1 0=1");
        run(12, "the tick", "now=0; pass 5=5; now=5; pass 0=argument; now=5; node 1=0; now=5; pass 1=6; now=6");
    }

    private static void moving() {
        run(10, "which exception goes", "move 0 0 0=index; node 9=0; node 9=1; part 1 1=0; part 1 2=1; place 0 5=0; "
                + "move 1 0 0=index; move -1 0 0=index; move 0 2 0=index; move 0 -1 0=index; move 0 0 2=index; "
                + "move 0 0 -1=index; move 0 0 0=argument; move 0 1 1=argument; move 0 0 1=-1; end 0=nothing; "
                + "move 0 0 0=argument; move 0 0 1=state; move 0 2 1=index; move 0 0 2=index");
        run(10, "not of a safe request or one with a split line", RING, "part 1 63=0; place 2 9=0; move 0 0 1=state; "
                + "move 0 0 0=argument; part 1 1=0; part 1 4=1; part 1 63=2; line 0 1 12=0; place 1 9=1; at 1 2=1; "
                + "move 1 2 3=state; move 1 2 1=argument; part 1 63=0; place 1 9=2; move 2 0 3=0; at 2 0=3");
        run(10, "a split request whose lines are whole", RING, "part 1 1=0; part 1 14=1; line 0 1 5=0; place 1 9=0; "
                + "at 0 1=1; move 0 1 2=2; way 0 0 0=3; move 0 1 3=1; way 0 0 0=8; ofLink 0 0=0; ofLink 3 0=5; "
                + "told 0 7=5; told 0 1=1");
        run(10, "where it may be, no other part is, and there is room", "node 9=0; node 9=1; node 4=2; node 9=3; "
                + "part 5 15=0; part 2 31=1; place 0 9=0; move 0 0 1=-1; move 0 0 2=-1; at 0 0=0; move 0 0 3=0; at 0 0=3; "
                + "ofNode 0 0=9; ofNode 0 1=0; ofNode 3 0=4; ofNode 3 1=1; node 9=4; move 0 0 4=-1; move 0 1 4=0; "
                + "at 0 1=4; part 4 1=0; place 0 9=1; move 1 0 1=-1");
        run(10, "room just enough, or one short", "node 9=0; node 9=1; part 5 3=0; place 0 9=0; part 4 2=0; place 0 9=1; "
                + "move 0 0 1=0; ofNode 1 0=0; part 6 3=0; place 0 9=2; at 2 0=0; move 2 0 1=-1; ofNode 0 0=3");
        run(10, "it may go to a node that came later", "node 9=0; part 5 3=0; place 0 9=0; move 0 0 1=index; node 9=1; "
                + "move 0 0 1=0; at 0 0=1");
        run(10, "its lines get new ways, line by line, others stay", RING, "part 1 1=0; part 1 2=1; part 1 12=2; "
                + "line 0 1 3=0; line 1 2 4=1; line 2 0 5=2; place 0 9=0; at 0 2=3; way 0 0 0=1; way 0 1 0=9; "
                + "way 0 2 0=8; move 0 2 2=3; way 0 0 0=1; way 0 1 0=2; way 0 2 0=3; ofLink 0 0=8; ofLink 1 0=9; "
                + "ofLink 2 0=0; ofLink 3 0=0; told 0 7=17; move 0 2 3=3; way 0 1 0=9; way 0 2 0=8; told 0 7=16; "
                + "fail 0 true=1; move 0 2 2=3; way 0 0 0=1; way 0 1 0=2; way 0 2 0=12; told 0 5=1");
        run(10, "its own lines are taken away ahead", "node 9=0; node 9=1; node 9=2; link 0 1 5=0; link 1 2 5=1; "
                + "part 1 1=0; part 1 6=1; line 0 1 5=0; place 0 9=0; move 0 1 2=2; way 0 0 0=3; move 0 1 1=1; "
                + "way 0 0 0=1; ofLink 1 2=5");
        run(10, "what it takes is there for its next line", RING, "part 1 1=0; part 1 4=1; part 1 10=2; line 0 2 6=0; "
                + "line 2 1 6=1; line 0 1 4=2; place 0 9=0; at 0 2=1; way 0 2 0=3; move 0 2 3=2; way 0 0 0=8; way 0 1 0=4; "
                + "way 0 2 0=3; ofLink 0 0=4; ofLink 3 0=6");
        run(10, "nothing is changed if a line has no way", RING, "part 1 1=0; part 1 4=1; part 2 10=2; line 0 2 6=0; "
                + "line 2 1 6=1; place 0 9=0; at 0 2=1; part 1 4=0; part 1 8=1; line 0 1 5=0; place 0 9=1; fail 1 true=1; "
                + "move 0 2 3=-1; at 0 2=1; way 0 0 0=1; way 0 1 0=2; ofLink 0 0=6; ofLink 1 0=6; ofLink 2 0=5; "
                + "ofLink 3 0=0; ofNode 1 0=18; ofNode 1 1=1; ofNode 3 0=19; ofNode 3 1=1; told 0 5=1; fail 1 false=0; "
                + "end 1=nothing; move 0 2 3=2");
        run(10, "no new way goes where it is reserved or failed", RING, "part 1 4=0; part 1 10=1; line 0 1 4=0; "
                + "place 0 9=0; way 0 0 0=2; ", ENDS_0_1, "line 0 1 6=0; place 2 9=1; way 1 0 2=14; part 1 4=0; "
                + "part 1 8=1; line 0 1 1=0; place 0 9=2; way 2 0 0=4; ", ENDS_0_1, "line 0 1 1=0; place 0 9=3; "
                + "way 3 0 0=1; move 0 1 3=-1; end 3=nothing; move 0 1 3=3; way 0 0 0=11; end 2=nothing; move 0 1 1=1; "
                + "move 0 1 3=1; way 0 0 0=4; move 0 1 1=1; fail 2 true=0; move 0 1 3=3; fail 3 true=1; move 0 1 1=1; "
                + "move 0 1 3=-1; fail 2 false=0; move 0 1 3=1; ofLink 2 2=0");
        run(10, "the order is from the part that the line was told with first", TWISTED, "part 1 1=0; part 1 6=1; "
                + "line 1 0 3=0; place 0 9=0; at 0 1=1; move 0 1 2=2; way 0 0 0=10; end 0=nothing; part 1 1=0; "
                + "part 1 6=1; line 0 1 3=0; place 0 9=1; move 1 1 2=2; way 1 0 0=5");
        run(10, "the fewest links go first", RING, "link 0 2 9=4; part 1 1=0; part 1 6=1; line 0 1 9=0; place 0 9=0; "
                + "at 0 1=1; move 0 1 2=1; way 0 0 0=16; move 0 1 1=1; part 1 1=0; part 1 4=1; line 0 1 1=0; place 0 9=1; "
                + "move 0 1 2=2; way 0 0 0=3");
        run(10, "a line that did not run gets a way", RING, "part 1 3=0; part 1 4=1; line 0 1 3=0; place 0 9=0; at 0 0=1; "
                + "fail 1 true=1; told 0 5=1; move 0 0 0=2; way 0 0 0=12; told 0 5=0; move 0 0 1=3; way 0 0 0=13");
    }

    private static void asking() {
        run(13, "room and parts", "node 20=0; node 8=1; ofNode 0 0=20; ofNode 0 1=0; part 5 63=0; part 6 63=1; "
                + "place 0 3=0; part 7 63=0; place 0 9=1; ofNode 0 0=8; ofNode 0 1=2; ofNode 1 0=2; ofNode 1 1=1; "
                + "ofNode 2 0=index; ofNode -1 0=index; ofNode 2 2=index; ofNode 0 2=argument; ofNode 0 -1=argument; "
                + "pass 3=3; ofNode 0 0=13; ofNode 0 1=1; ofNode 1 0=8; ofNode 1 1=0");
        run(14, "what is asked", PAIR, "ofLink 0 0=0; ofLink 0 1=0; ofLink 0 2=50; ofLink 0 3=0; ofLink 0 4=argument; "
                + "ofLink 0 -1=argument; ofLink 1 0=index; ofLink -1 0=index; ofLink 1 4=index; ", ENDS_0_1,
                "line 0 1 20=0; place 0 9=0; ofLink 0 0=20; ofLink 0 2=30; fail 0 true=1; ofLink 0 3=1; ofLink 0 0=20");
        run(14, "the greatest over each other link, not the sum", RING, "link 0 2 10=4; ", ENDS_0_1, "line 0 1 4=0; "
                + "place 2 9=0; way 0 0 2=18; part 1 2=0; part 1 4=1; line 0 1 3=0; place 2 9=1; way 1 0 0=2; way 1 0 2=17; "
                + "ofLink 4 1=4; ofLink 4 0=0; ofLink 4 2=6; ofLink 0 1=3; ofLink 1 1=4; ofLink 0 2=3; end 0=nothing; "
                + "ofLink 4 1=3; ofLink 1 1=0");
        run(15, "which exception goes", "load 0 -1=index; ", RING, "load 0 -1=0; load 4 -1=index; load -1 -1=index; "
                + "load 0 -2=index; load 0 4=index; load 4 4=index; load 0 0=argument; load 3 3=argument; load 0 1=0; "
                + "load 0 -2147483648=index; load 0 2147483647=index");
        run(15, "lines go over to their second ways", RING, ENDS_0_1, "line 0 1 6=0; place 2 5=0; ", "part 1 4=0; "
                + "part 1 8=1; line 0 1 4=0; place 0 9=1; load 0 -1=6; load 0 1=6; load 1 -1=0; load 1 0=6; load 1 2=0; "
                + "load 2 -1=4; load 2 0=10; load 2 3=4; load 3 0=6; load 3 2=0; fail 0 true=0; load 1 -1=0; load 0 -1=6; "
                + "fail 2 true=2; load 2 0=10; load 2 -1=4; fail 0 false=1; pass 5=5; load 2 0=4; load 0 -1=0; load 1 0=0");
        run(15, "a line split is off both its ways", RING, ENDS_0_2, "line 0 1 12=0; place 1 9=0; load 0 -1=10; "
                + "load 2 -1=2; load 2 0=0; load 0 2=0; load 1 0=0; load 0 1=0");
        run(16, "what is asked", RING, "pass 2=2; part 1 1=0; part 1 4=1; part 1 8=2; line 0 1 3=0; line 0 2 2=1; "
                + "place 1 9=0; told 0 0=0; told 0 1=1; told 0 2=11; told 0 3=3; told 0 4=2; told 0 5=0; told 0 6=0; "
                + "told 0 7=8; told 0 8=argument; told 0 -1=argument; told 1 0=index; told -1 0=index; told 1 8=index; "
                + "end 0=nothing; told 0 0=1; told 0 1=1; told 0 2=11; told 0 3=3; told 0 4=2; told 0 7=8; "
                + "fail 0 true=0; told 0 5=1; fail 3 true=0; told 0 5=2");
        run(16, "lines on second ways, of an ended request too", RING, "part 1 1=0; part 1 2=1; part 1 4=2; "
                + "line 0 1 5=0; line 1 2 5=1; place 2 9=0; fail 0 true=0; told 0 5=0; told 0 6=1; fail 1 true=1; "
                + "told 0 5=2; told 0 6=0; fail 0 false=0; told 0 5=0; told 0 6=1; end 0=nothing; told 0 6=1; "
                + "fail 3 true=0; told 0 5=1; told 0 6=0");
        run(17, "the node of a part", "node 9=0; node 9=1; part 1 2=0; part 1 1=1; place 0 9=0; at 0 0=1; at 0 1=0; "
                + "at 0 2=index; at 0 -1=index; at 1 0=index; at -1 0=index; end 0=nothing; at 0 0=1; at 0 1=0; "
                + "part 1 1=0; place 0 9=1; at 1 0=0; at 1 1=index");
        run(18, "the links of a way", RING, ENDS_0_2, "line 0 1 3=0; place 0 9=0; way 0 0 0=3; way 0 0 1=0; way 0 0 2=0; "
                + "way 0 0 3=argument; way 0 0 -1=argument; way 0 1 0=index; way 0 -1 0=index; way 1 0 0=index; "
                + "way -1 0 0=index; way 0 1 3=index; way 1 0 3=index; end 0=nothing; way 0 0 0=3; part 1 1=0; "
                + "place 0 9=1; way 1 0 0=index");
    }

    private static void leasts() {
        run(19, "none without a part, 0 without a line", "least=-1; node 9=0; least=-1; part 1 1=0; least=0; clear=1; "
                + "least=-1; part 10 1=0; least=-1");
        run(19, "the least cost, and nothing is changed", RING, "part 5 63=0; part 6 63=1; part 7 63=2; line 0 1 5=0; "
                + "line 1 2 6=1; line 0 2 4=2; least=19; leastAnew=19; ofLink 0 0=0; ofNode 0 0=20; least=19; "
                + "place 0 9=0; told 0 7=19; least=-1; ofLink 0 0=9");
        run(20, "none without a part, 0 without a line", "leastAnew=-1; node 9=0; leastAnew=-1; part 1 1=0; leastAnew=0; "
                + "clear=1; leastAnew=-1; part 10 1=0; leastAnew=-1");
        run(20, "the same as least, and nothing is changed", RING, "link 0 2 3=4; part 1 1=0; part 1 4=1; line 0 1 3=0; "
                + "leastAnew=3; least=3; ofLink 4 0=0; place 0 9=0; part 1 1=0; part 1 4=1; line 0 1 3=0; leastAnew=6; "
                + "least=6; fail 0 true=0; fail 3 true=0; leastAnew=-1; least=-1; ofLink 4 0=3; ofNode 0 0=19");
    }

    private static void freeing() {
        run(21, "none if there is no part, or it can be placed already", "freeing=-1; node 9=0; node 9=1; part 5 63=0; "
                + "place 0 9=0; freeing=-1; part 9 63=0; freeing=-1; clear=1; part 9 1=0; freeing=1; move 0 0 1=0; "
                + "freeing=-1; place 0 9=1");
        run(21, "none if there is no such move", "node 9=0; node 9=1; part 5 1=0; place 0 9=0; part 9 1=0; freeing=-1; "
                + "clear=1; part 9 2=0; part 5 1=1; freeing=-1");
        run(21, "the least need goes before the request", "node 20=0; node 20=1; part 6 3=0; place 0 9=0; part 5 3=0; "
                + "place 0 9=1; part 14 1=0; freeing=101; clear=1; part 15 1=0; freeing=1; clear=1; part 16 1=0; "
                + "freeing=-1");
        run(21, "of several with the least need the lowest request", "node 20=0; node 20=1; part 5 3=0; place 0 9=0; "
                + "part 5 3=0; place 0 9=1; part 4 1=0; place 0 9=2; part 11 1=0; freeing=1; end 0=nothing; clear=1; "
                + "part 12 1=0; freeing=101; clear=1; part 10 1=0; freeing=-1");
        run(21, "the least need, though of a higher request, part and node", "node 20=0; node 20=1; node 20=2; "
                + "part 6 7=0; place 0 9=0; part 6 1=0; part 7 2=1; place 0 9=1; part 5 5=0; place 0 9=2; part 8 1=0; "
                + "freeing=202; clear=1; part 9 1=0; freeing=1; end 2=nothing; clear=1; part 13 1=0; freeing=1; clear=1");
        run(21, "of several the lowest part, then the lowest node", "node 10=0; node 10=1; node 20=2; node 20=3; "
                + "part 5 13=0; part 5 14=1; place 0 9=0; at 0 0=0; at 0 1=1; part 6 3=0; freeing=2; clear=1; "
                + "part 6 2=0; freeing=12; clear=1; part 15 4=0; part 6 1=1; freeing=2; clear=2; part 16 4=0; part 6 1=1; "
                + "freeing=3");
        run(21, "a move that makes room on links", RING, "part 1 6=0; part 1 1=1; line 0 1 8=0; place 0 9=0; at 0 0=1; "
                + "way 0 0 0=1; ", ENDS_0_1, "line 0 1 5=0; least=15; fail 1 true=0; least=-1; freeing=2; move 0 0 2=2; "
                + "way 0 0 0=12; least=5; freeing=-1; place 0 9=1");
        run(21, "not of safe, split or ended ones", "node 20=0; node 20=1; part 5 3=0; place 2 9=0; part 16 1=0; "
                + "freeing=-1; end 0=nothing; freeing=-1; part 5 3=1; clear=2; part 5 3=0; place 1 9=1; part 16 1=0; "
                + "freeing=101; pass 9=9; freeing=-1; least=0");
        run(21, "not of a request with a split line", RING, "part 1 1=0; part 1 4=1; part 5 10=2; line 0 1 12=0; "
                + "place 1 9=0; at 0 2=1; part 16 2=0; freeing=-1; clear=1; part 1 1=0; part 1 4=1; part 5 10=2; "
                + "place 1 9=1; part 16 2=0; freeing=-1; clear=1; part 15 2=0; freeing=123");
        run(21, "for a PLAIN place, though it could be split", RING, ENDS_0_2, "line 0 1 8=0; place 0 9=0; ",
                "part 1 1=0; part 1 4=1; line 0 1 11=0; freeing=-1; place 1 9=1; end 0=nothing; end 1=nothing; "
                + "part 1 2=0; part 1 12=1; line 0 1 5=0; place 0 9=2; ", ENDS_0_2, "line 0 1 12=0; least=-1; freeing=-1");
        run(21, "nothing is changed by asking", RING, "part 5 63=0; part 1 63=1; line 0 1 4=0; place 0 9=0; part 16 1=0; "
                + "freeing=2; at 0 0=0; at 0 1=1; way 0 0 0=1; ofNode 0 0=15; ofNode 2 0=20; ofLink 0 0=4; ofLink 1 0=0; "
                + "ofLink 3 0=0; freeing=2; clear=1");
    }
}

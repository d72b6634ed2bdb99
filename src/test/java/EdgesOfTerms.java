/** The sentences of the document's "Terms", each with runs at its edges. */
final class EdgesOfTerms {
    private static final String RING = Runs.RING;
    private static final String TWISTED = Runs.TWISTED;
    private static final String PAIR = Runs.PAIR;
    private static final String SIX = Runs.SIX;
    private static final String FULL = Runs.FULL;
    private static final String TWELVE = Runs.TWELVE;
    private static final String ENDS_0_1 = Runs.ENDS_0_1;
    private static final String ENDS_0_2 = Runs.ENDS_0_2;
    private static final int MOST_CALLS = 512;

    private final Sentences sentences;

    EdgesOfTerms(Sentences sentences) {
        this.sentences = sentences;
    }

    void all() {
        use();
        rooms();
        ground();
        ways();
        requests();
        mappings();
        order();
        splitLines();
        splitOfLittle();
        splitRest();
        safe();
        reserved();
        failures();
        time();
        moves();
        movedLines();
        exceptions();
        asking();
        firstException();
        whatIsNotThere();
    }

    private void says(String quote, String... calls) {
        sentences.ofTerms(quote, calls);
    }

    private void use() {
        StringBuilder calls = new StringBuilder("node 9=0; part 1 1=0; place 0 1=0; ");
        for (int call = 4; call < MOST_CALLS; call++) {
            calls.append("pass 100=").append((call - 3) * 100).append("; ");
        }
        sentences.says("What it is", "at most 512 calls", calls.toString(), "now=50800");
        calls.setLength(0);
        calls.append("node 9=0; ");
        for (int call = 2; call < MOST_CALLS - 3; call++) {
            calls.append(call % 2 == 0 ? "pass 100=" + call / 2 * 100 + "; " : "node 0=argument; ");
        }
        sentences.says("What it is", "at most 512 calls", calls.toString(), "part 9 1=0; place 0 100=0; "
                + "told 0 2=25500; ofNode 0 0=0");
    }

    private void rooms() {
        says("Nothing is over its room", "node 20=0; part 20 1=0; place 0 9=0; ofNode 0 0=0; part 1 1=0; place 0 9=-1; "
                + "place 1 9=-1; place 2 9=-1; ofNode 0 0=0; ofNode 0 1=1");
        says("Nothing is over its room, in use", "node 20=0; node 20=1; link 0 1 20=0; ", ENDS_0_1, "line 0 1 20=0; "
                + "place 0 9=0; ofLink 0 2=0; ", ENDS_0_1, "line 0 1 1=0; place 0 9=-1; place 1 9=-1; place 2 9=-1; "
                + "ofLink 0 0=20; load 0 -1=20");
        says("or behind any single failure", RING, ENDS_0_1, "line 0 1 10=0; place 2 9=0; load 0 -1=10; load 1 0=10; "
                + "load 2 0=10; load 3 0=10; ofLink 0 2=0; ofLink 1 2=0; ofLink 2 2=0; ofLink 3 2=0; part 1 4=0; "
                + "part 1 8=1; line 0 1 1=0; place 0 9=-1; place 1 9=-1; place 2 9=-1; clear=2; ", ENDS_0_1,
                "line 0 1 1=0; place 2 9=-1");
    }

    private void ground() {
        says("Nodes are numbered from 0, at most 6", "node 1=0; node 2=1; node 3=2; node 4=3; node 5=4; node 6=5; "
                + "node 7=state; ofNode 0 0=1; ofNode 5 0=6; ofNode 6 0=index");
        says("each with room, 1 to 99", "node 0=argument; node 1=0; node 99=1; node 100=argument; ofNode 0 0=1; "
                + "ofNode 1 0=99; ofNode 2 0=index");
        says("links from 0, at most 9", FULL, "link 1 3 10=state; ofLink 8 2=10; ofLink 9 2=index");
        says("each between two nodes", PAIR, "link 0 0 5=argument; link 1 1 5=argument; ofLink 1 2=index");
        says("at most one for two", SIX, "link 4 5 9=0; link 4 5 9=state; link 5 4 9=state; link 4 3 9=1; link 3 5 9=2; "
                + "fail 0 true=0; link 4 5 9=state");
        says("at most one for two, with room, 1 to 99", SIX, "link 0 1 0=argument; link 0 1 1=0; link 1 2 99=1; "
                + "link 2 3 100=argument; ofLink 0 2=1; ofLink 1 2=99; ofLink 2 2=index");
        says("A link can fail, and be mended", PAIR, "ofLink 0 3=0; fail 0 false=0; ofLink 0 3=0; fail 0 true=0; "
                + "ofLink 0 3=1; fail 0 true=0; ofLink 0 3=1; fail 0 false=0; ofLink 0 3=0; fail 0 true=0; ofLink 0 3=1");
        says("A link can fail", FULL, "fail 8 true=0; fail 0 true=0; ofLink 8 3=1; ofLink 0 3=1; ofLink 7 3=0; "
                + "fail 8 false=0; ofLink 8 3=0; ofLink 0 3=1");
    }

    private void ways() {
        says("A way is a row of links that have not failed", RING, ENDS_0_1, "line 0 1 5=0; least=5; fail 0 true=0; "
                + "least=15; leastAnew=15; fail 2 true=0; least=-1; leastAnew=-1; place 0 9=-1; place 1 9=-1; "
                + "fail 0 false=0; least=5; place 2 9=-1; fail 2 false=0; place 2 9=0");
        says("from a node to another one", "node 9=0; node 9=1; node 9=2; link 0 1 9=0; ", ENDS_0_2, "line 0 1 1=0; "
                + "least=-1; leastAnew=-1; place 1 9=-1; link 1 2 9=1; least=2");
        says("by no node twice", "node 9=0; node 9=1; node 9=2; node 9=3; node 9=4; link 1 3 9=0; link 3 4 9=1; "
                + "link 4 1 9=2; link 0 1 5=3; link 1 2 9=4; ", ENDS_0_2, "line 0 1 5=0; least=10; leastAnew=10; "
                + "place 2 9=-1; place 0 9=0; way 0 0 0=24; ", ENDS_0_2, "line 0 1 1=0; place 1 9=-1; least=-1");
        says("A way is a row of links", "node 9=0; node 9=1; node 9=2; link 0 1 9=0; link 1 2 9=1; part 9 2=0; "
                + "place 0 9=0; ofNode 1 0=0; ", ENDS_0_2, "line 0 1 9=0; place 0 9=1; way 1 0 0=3");
        says("the lower number at the first place where they differ goes first", "node 9=0; node 9=1; node 9=2; "
                + "node 9=3; node 9=4; link 0 1 9=0; link 1 4 9=1; link 1 3 9=2; link 3 2 9=3; link 4 2 9=4; ", ENDS_0_2,
                "line 0 1 1=0; place 0 9=0; way 0 0 0=19; ", ENDS_0_2, "line 1 0 1=0; place 0 9=1; way 1 0 0=13");
        says("of a line: from the node of the part that it was told with first", TWISTED, ENDS_0_2, "line 0 1 1=0; "
                + "place 0 9=0; way 0 0 0=5; ", ENDS_0_2, "line 1 0 1=0; place 0 9=1; way 1 0 0=10; part 1 4=0; part 1 1=1; "
                + "line 0 1 1=0; place 0 9=2; way 2 0 0=10");
    }

    private void requests() {
        says("parts, at most 3", SIX, "part 1 63=0; part 1 63=1; part 1 63=2; part 1 63=state; place 0 9=0; told 0 3=3; "
                + "at 0 3=index; clear=0");
        says("each with a need, 1 to 20", SIX, "part 0 1=argument; part 1 1=0; part 20 2=1; part 21 4=argument; "
                + "place 0 9=0; ofNode 0 0=19; ofNode 1 0=0; told 0 3=2");
        says("a set of nodes at which it may be, bits 0 to 5", SIX, "part 1 0=argument; part 1 32=0; part 1 1=1; "
                + "part 1 64=argument; place 0 9=0; at 0 0=5; at 0 1=0; part 1 63=0; place 0 9=1; at 1 0=0");
        says("lines, at most 3", SIX, "link 0 1 9=0; link 1 2 9=1; link 2 0 9=2; part 1 1=0; part 1 2=1; part 1 4=2; "
                + "line 0 1 1=0; line 1 2 1=1; line 2 0 1=2; line 0 2 1=state; line 2 1 1=state; place 0 9=0; told 0 4=3; "
                + "way 0 2 0=4; way 0 3 0=index");
        says("each between two parts, at most one for two", PAIR, ENDS_0_1, "line 0 0 1=argument; line 1 1 1=argument; "
                + "line 1 0 1=0; line 0 1 1=state; line 1 0 1=state; place 0 9=0; told 0 4=1");
        says("at most one for two, with a need, 1 to 20", PAIR, ENDS_0_1, "line 0 1 0=argument; line 0 1 21=argument; "
                + "line 0 1 20=0; least=20; clear=2; ", ENDS_0_1, "line 0 1 1=0; least=1");
        says("Requests are numbered from 0, at most 12", TWELVE, "part 1 1=0; place 0 9=state; told 11 0=0; "
                + "told 12 0=index; ofNode 0 1=12; clear=1; end 0=nothing; part 1 1=0; place 0 9=state; told 0 0=1");
        says("one has a time at which it ends", "node 9=0; part 1 1=0; place 0 3=0; told 0 2=3; pass 2=2; told 0 0=0; "
                + "part 1 1=0; place 0 3=1; told 1 2=5; pass 1=3; told 0 0=1; told 1 0=0; pass 1=4; told 1 0=0; pass 1=5; "
                + "told 1 0=1");
        says("Ticks are counted from 0", "now=0; pass 1=1; now=1");
    }

    private void mappings() {
        says("A mapping has a node for each part, each another one", "node 99=0; node 99=1; part 1 3=0; part 1 3=1; "
                + "least=0; part 1 3=2; least=-1; leastAnew=-1; place 0 9=-1; place 1 9=-1; place 2 9=-1; node 1=2; "
                + "least=-1; clear=3; part 1 2=0; part 1 2=1; place 0 9=-1");
        says("at which it may be", "node 9=0; node 9=1; part 1 4=0; least=-1; leastAnew=-1; place 0 9=-1; place 1 9=-1; "
                + "node 1=2; least=0; place 0 9=0; at 0 0=2");
        says("where there is room", "node 10=0; part 10 1=0; least=0; clear=1; part 11 1=0; least=-1; leastAnew=-1; "
                + "place 0 9=-1; clear=1; part 10 1=0; place 0 9=0; ofNode 0 0=0; part 1 1=0; least=-1; place 1 9=-1");
        says("a way for each line, between the nodes of its parts", RING, "part 1 1=0; part 1 2=1; part 1 8=2; "
                + "line 2 1 2=0; line 0 2 3=1; line 1 0 4=2; least=11; place 0 9=0; way 0 0 0=6; way 0 1 0=8; way 0 2 0=1; "
                + "part 1 1=0; part 1 2=1; least=0; place 0 9=1; told 1 7=0");
        says("room for the needs of all lines of the request that go there, together", "node 9=0; node 9=1; node 9=2; "
                + "link 0 1 7=0; link 1 2 7=1; part 1 1=0; part 1 2=1; part 1 4=2; line 0 2 3=0; line 0 1 4=1; least=10; "
                + "leastAnew=10; place 0 9=0; ofLink 0 2=0; end 0=nothing; part 1 1=0; part 1 2=1; part 1 4=2; "
                + "line 0 2 3=0; line 0 1 5=1; least=-1; leastAnew=-1; place 0 9=-1; place 2 9=-1; ofLink 0 2=7");
        says("The room of a node is its own less the needs of parts there", "node 10=0; part 6 1=0; place 0 9=0; "
                + "part 5 1=0; least=-1; place 0 9=-1; clear=1; part 4 1=0; least=0; place 0 9=1; ofNode 0 0=0; "
                + "end 0=nothing; ofNode 0 0=6; part 7 1=0; least=-1; clear=1; part 6 1=0; least=0");
        says("less the needs of lines of others there", PAIR, ENDS_0_1, "line 0 1 20=0; place 0 9=0; ", ENDS_0_1,
                "line 0 1 20=0; place 0 9=1; ", ENDS_0_1, "line 0 1 11=0; least=-1; leastAnew=-1; place 0 9=-1; clear=2; ",
                ENDS_0_1, "line 0 1 10=0; least=10; place 0 9=2; ofLink 0 2=0");
        says("less what is reserved there", RING, ENDS_0_1, "line 0 1 6=0; place 2 9=0; part 1 4=0; part 1 8=1; "
                + "line 0 1 5=0; least=-1; leastAnew=-1; place 0 9=-1; clear=2; part 1 4=0; part 1 8=1; line 0 1 4=0; "
                + "least=4; leastAnew=4; place 0 9=1; ofLink 2 2=0");
        says("Its cost is the sum, over its lines, of the need times how many links the way has", RING, "part 1 1=0; "
                + "part 1 2=1; part 1 4=2; least=0; line 0 1 5=0; least=5; line 0 2 3=1; least=11; leastAnew=11; "
                + "line 1 2 2=2; least=13; leastAnew=13; place 0 9=0; told 0 7=13");
    }

    private void order() {
        says("The least mapping is that with the least cost", RING, "part 1 1=0; part 1 12=1; line 0 1 3=0; least=3; "
                + "place 0 9=0; at 0 1=3; told 0 7=3");
        says("of several that which has the lower node for the first part, then the second one, the third one", SIX,
                "part 1 60=0; part 1 62=1; part 1 63=2; place 0 9=0; at 0 0=2; at 0 1=1; at 0 2=0; part 1 63=0; "
                + "part 1 63=1; part 1 56=2; place 0 9=1; at 1 0=0; at 1 1=1; at 1 2=3");
        says("which has the lower node for the first part", RING, "part 1 10=0; part 1 5=1; line 0 1 3=0; place 0 9=0; "
                + "at 0 0=1; at 0 1=0; part 1 5=0; part 1 10=1; line 0 1 3=0; place 0 9=1; at 1 0=0; at 1 1=1");
        says("then the way that goes first for the first line", "node 9=0; node 9=1; node 9=2; node 9=3; link 0 3 9=0; "
                + "link 3 1 9=1; link 0 1 1=2; link 1 2 9=3; part 1 1=0; part 1 2=1; part 1 4=2; line 0 1 1=0; line 0 2 1=1; "
                + "least=4; place 0 9=0; way 0 0 0=3; way 0 1 0=12");
        says("then the way that goes first for the first line", "node 9=0; node 9=1; node 9=2; node 9=3; link 0 1 1=0; "
                + "link 0 3 9=1; link 3 1 9=2; link 1 2 9=3; part 1 1=0; part 1 2=1; part 1 4=2; line 0 1 1=0; line 0 2 1=1; "
                + "least=4; place 0 9=0; way 0 0 0=1; way 0 1 0=14");
        says("for the first line, and so on", TWISTED, "part 1 1=0; part 1 2=1; part 1 4=2; line 0 1 1=0; line 1 2 1=1; "
                + "line 2 0 1=2; least=4; place 0 9=0; way 0 0 0=1; way 0 1 0=4; way 0 2 0=10; part 1 1=0; part 1 2=1; "
                + "part 1 4=2; line 0 1 1=0; line 1 2 1=1; line 0 2 1=2; place 0 9=1; way 1 2 0=5");
        says("placed in one of three manners", RING, "part 1 1=0; place -1 9=argument; place 3 9=argument; place 0 9=0; "
                + "part 1 1=0; place 1 9=1; part 1 1=0; place 2 9=2; told 0 1=0; told 1 1=1; told 2 1=2");
        says("PLAIN 0: by the least mapping", RING, ENDS_0_2, "line 0 1 10=0; place 0 9=0; way 0 0 0=3; way 0 0 1=0; "
                + "way 0 0 2=0; ofLink 2 1=0; ", ENDS_0_2, "line 0 1 11=0; least=-1; place 0 9=-1");
    }

    private void splitLines() {
        says("SPLIT 1: by the least mapping, if there is one", SIX, "link 0 1 9=0; link 0 2 10=1; link 2 3 10=2; "
                + "link 3 1 10=3; ", ENDS_0_1, "line 0 1 10=0; least=30; place 1 9=0; way 0 0 0=14; way 0 0 1=0; told 0 7=30; "
                + "told 0 1=1; ofLink 0 0=0");
        says("otherwise by the first choice of nodes, in that same order, by which this can be", SIX, "link 0 1 5=0; "
                + "link 1 3 5=1; link 3 0 5=2; link 0 2 9=3; link 2 3 5=4; part 1 1=0; part 1 6=1; line 0 1 10=0; least=-1; "
                + "place 1 9=0; at 0 1=1; way 0 0 0=1; way 0 0 1=6; told 0 7=15");
        says("by which this can be", SIX, "link 0 1 9=0; link 0 2 5=1; link 2 3 5=2; link 3 0 5=3; part 1 1=0; part 1 6=1; "
                + "line 0 1 10=0; place 1 9=0; at 0 1=2; way 0 0 0=2; way 0 0 1=12; clear=0; part 1 1=0; part 1 2=1; "
                + "line 0 1 10=0; place 1 9=-1; told 1 0=index; clear=2");
        says("line by line, a line gets the way with the fewest links", RING, "link 0 2 4=4; part 1 1=0; part 1 4=1; "
                + "part 1 8=2; line 0 1 4=0; line 1 2 14=1; least=-1; place 1 9=0; way 0 0 0=16; way 0 0 1=0; way 0 1 0=4; "
                + "way 0 1 1=11");
        says("of several the one that goes first, of those with room for it", RING, "link 0 2 4=4; part 1 1=0; part 1 4=1; "
                + "part 1 8=2; line 0 1 5=0; line 1 2 14=1; least=-1; place 1 9=0; way 0 0 0=3; way 0 0 1=0; way 0 1 0=4; "
                + "way 0 1 1=24");
        says("what lines ahead of it take being taken", "node 9=0; node 9=1; node 9=2; link 0 1 9=0; link 1 2 4=1; "
                + "link 2 0 9=2; part 1 1=0; part 1 2=1; part 1 4=2; line 0 1 6=0; line 1 2 7=1; least=-1; place 1 9=0; "
                + "way 0 0 0=1; way 0 1 0=2; way 0 1 1=5; ofLink 0 2=0; ofLink 1 2=0; ofLink 2 2=6; end 0=nothing; "
                + "part 1 1=0; part 1 2=1; part 1 4=2; line 0 1 7=0; line 1 2 7=1; place 1 9=-1; ofLink 0 2=9");
        says("of the ways whose least room of a link is 1 or more", "node 9=0; node 9=1; node 9=2; link 0 1 5=0; "
                + "link 0 2 9=1; link 2 1 9=2; ", ENDS_0_1, "line 0 1 4=0; place 0 9=0; ", ENDS_0_1, "line 0 1 10=0; "
                + "place 1 9=1; way 1 0 0=6; way 1 0 1=1; told 1 7=19; ofLink 0 2=0; ofLink 1 2=0; ", ENDS_0_1,
                "line 0 1 1=0; place 1 9=-1; end 1=nothing; place 1 9=2; way 2 0 0=1");
        says("whose least room of a link is 1 or more", "node 9=0; node 9=1; node 9=2; link 0 1 5=0; link 0 2 9=1; "
                + "link 2 1 9=2; ", ENDS_0_1, "line 0 1 5=0; place 0 9=0; ", ENDS_0_1, "line 0 1 10=0; place 1 9=-1; clear=2; ",
                ENDS_0_1, "line 0 1 9=0; place 1 9=1; way 1 0 0=6; way 1 0 1=0; ", ENDS_0_1, "line 0 1 2=0; place 1 9=-1; "
                + "told 2 0=index");
    }

    private void splitOfLittle() {
        says("whose least room of a link is 1 or more", "node 9=0; node 9=1; node 9=2; link 0 1 1=0; link 1 2 1=1; "
                + "link 0 2 1=2; ", ENDS_0_2, "line 0 1 3=0; place 1 9=-1; clear=2; ", ENDS_0_2, "line 0 1 2=0; place 1 9=0; "
                + "way 0 0 0=4; way 0 0 1=3; told 0 7=3; ofLink 0 2=0; ofLink 2 2=0");
        says("line by line", RING, "link 0 2 10=4; part 1 1=0; part 1 2=1; part 1 4=2; line 0 1 11=0; line 1 2 9=1; "
                + "line 2 0 19=2; least=-1; place 1 9=0; way 0 0 0=1; way 0 0 1=18; way 0 1 0=2; way 0 1 1=0; way 0 2 0=12; "
                + "way 0 2 1=16; told 0 7=50; ofLink 0 2=0; ofLink 1 2=0; ofLink 2 2=0; ofLink 3 2=0; ofLink 4 2=0");
        says("the rest gets a way likewise", RING, ENDS_0_2, "line 0 1 20=0; place 1 9=0; way 0 0 0=3; way 0 0 1=12; "
                + "told 0 7=40; ofLink 0 2=0; ofLink 3 2=0; load 0 2=0; load 1 -1=10");
    }

    private void splitRest() {
        says("that with the greatest such room", "node 9=0; node 9=1; node 9=2; link 0 2 8=0; link 0 1 9=1; "
                + "link 1 2 9=2; ", ENDS_0_2, "line 0 1 10=0; place 1 9=0; way 0 0 0=6; way 0 0 1=1; told 0 7=19; ofLink 0 0=1; "
                + "ofLink 1 0=9");
        says("of several the one with the fewest links", "node 9=0; node 9=1; node 9=2; link 0 1 9=0; link 1 2 9=1; "
                + "link 0 2 9=2; ", ENDS_0_2, "line 0 1 10=0; place 1 9=0; way 0 0 0=4; way 0 0 1=3; told 0 7=11");
        says("of several the one that goes first, gets that much", TWISTED, ENDS_0_2, "line 1 0 11=0; place 1 9=0; "
                + "way 0 0 0=10; way 0 0 1=5; ofLink 1 0=10; ofLink 0 0=1; end 0=nothing; ", ENDS_0_2, "line 0 1 11=0; "
                + "place 1 9=1; way 1 0 0=5; way 1 0 1=10; ofLink 0 0=10; ofLink 1 0=1");
        says("it is less than the need", RING, ENDS_0_1, "line 0 1 10=0; place 1 9=0; way 0 0 0=1; way 0 0 1=0; told 0 7=10; "
                + "end 0=nothing; ", ENDS_0_1, "line 0 1 11=0; place 1 9=1; way 1 0 0=1; way 1 0 1=14; told 1 7=13");
        says("the rest gets a way likewise", SIX, "link 0 1 8=0; link 0 2 3=1; link 2 1 3=2; link 0 3 9=3; link 3 4 9=4; "
                + "link 4 1 9=5; ", ENDS_0_1, "line 0 1 11=0; place 1 9=0; way 0 0 0=56; way 0 0 1=1; told 0 7=29");
        says("the rest gets a way likewise", SIX, "link 0 1 2=0; link 0 2 3=1; link 2 1 3=2; link 0 3 9=3; link 3 4 9=4; "
                + "link 4 1 9=5; ", ENDS_0_1, "line 0 1 12=0; place 1 9=0; way 0 0 0=56; way 0 0 1=6; told 0 7=33; "
                + "ofLink 1 2=0; ofLink 0 2=2");
        says("the rest gets a way likewise", SIX, "link 0 1 9=0; link 0 2 3=1; link 2 1 3=2; link 3 1 3=3; link 0 3 3=4; ",
                ENDS_0_1, "line 1 0 12=0; place 1 9=0; way 0 0 0=1; way 0 0 1=6; end 0=nothing; fail 2 true=0; ", ENDS_0_1,
                "line 1 0 12=0; place 1 9=1; way 1 0 1=24");
        says("but is not split again", SIX, "link 0 1 9=0; link 0 2 3=1; link 2 1 3=2; link 3 1 3=3; link 0 3 3=4; ",
                ENDS_0_1, "line 0 1 13=0; place 1 9=-1; ofLink 0 0=0; ofNode 0 1=0; clear=2; ", ENDS_0_1, "line 0 1 12=0; "
                + "place 1 9=0; ", ENDS_0_1, "line 0 1 4=0; place 1 9=-1; clear=2; ", ENDS_0_1, "line 0 1 3=0; place 1 9=1; "
                + "way 1 0 0=24; way 1 0 1=0");
    }

    private void safe() {
        says("SAFE 2: by the least mapping", SIX, "link 0 1 9=0; link 0 2 9=1; link 2 3 9=2; link 3 0 9=3; part 1 1=0; "
                + "part 1 6=1; line 0 1 2=0; place 2 9=-1; clear=2; part 1 1=0; part 1 4=1; line 0 1 2=0; place 2 9=0; "
                + "way 0 0 0=2; way 0 0 2=12; clear=0; ", ENDS_0_1, "line 0 1 10=0; least=-1; place 2 9=-1");
        says("of those that have no link of its way", SIX, "link 0 1 9=0; link 1 2 9=1; link 0 3 9=2; link 3 1 9=3; ",
                ENDS_0_2, "line 0 1 5=0; place 2 9=-1; link 1 4 9=4; link 4 2 9=5; place 2 9=0; way 0 0 0=3; way 0 0 2=60; "
                + "told 0 7=10");
        says("on which what would be reserved is within the room", "node 9=0; node 9=1; node 9=2; link 0 1 20=0; "
                + "link 0 2 5=1; link 2 1 6=2; ", ENDS_0_1, "line 0 1 6=0; place 2 9=-1; ofLink 2 1=0; clear=2; ", ENDS_0_1,
                "line 0 1 5=0; place 2 9=0; ofLink 1 1=5; ofLink 1 2=0; ofLink 2 2=1; ", ENDS_0_1, "line 0 1 1=0; place 2 9=-1");
        says("on which what would be reserved is within the room", "node 9=0; node 9=1; node 9=2; link 0 2 5=0; "
                + "link 2 1 9=1; link 0 1 20=2; ", ENDS_0_1, "line 0 1 6=0; place 2 9=-1; clear=2; ", ENDS_0_1,
                "line 0 1 5=0; place 2 9=0; way 0 0 2=3; ofLink 0 2=0");
        says("then line by line a second way", FULL, ENDS_0_1, "line 0 1 4=0; place 2 9=0; way 0 0 0=1; way 0 0 2=66; "
                + "part 1 1=0; part 1 16=1; line 1 0 3=0; place 2 9=1; way 1 0 0=256; way 1 0 2=136; ofLink 1 1=4; ofLink 3 1=3; "
                + "ofLink 7 1=3; ofLink 6 1=4; ofLink 8 1=0; load 7 8=3; load 3 0=0");
        says("what would be reserved is within the room", "node 9=0; node 9=1; node 9=2; link 0 1 20=0; link 0 2 5=1; "
                + "link 2 1 6=2; ", ENDS_0_1, "line 0 1 2=0; place 2 9=0; ", ENDS_0_1, "line 0 1 4=0; place 2 9=-1; clear=2; ",
                ENDS_0_1, "line 0 1 3=0; place 2 9=1; ofLink 1 1=5; ofLink 1 2=0; ofLink 2 1=5");
        says("the one with the fewest links, of several the one that goes first", RING,
                "link 0 2 9=4; link 1 3 9=5; ", ENDS_0_1, "line 0 1 2=0; place 2 9=0; way 0 0 2=40; end 0=nothing; "
                + "fail 3 true=0; ", ENDS_0_1, "line 0 1 2=0; place 2 9=1; way 1 0 2=18; end 1=nothing; fail 4 true=0; "
                + "fail 3 false=0; fail 5 true=0; ", ENDS_0_1, "line 0 1 2=0; place 2 9=2; way 2 0 2=14");
        says("of several the one that goes first", TWISTED, "link 0 2 10=4; ", ENDS_0_2,
                "line 0 1 1=0; place 2 9=0; way 0 0 2=5; ", ENDS_0_2, "line 1 0 1=0; place 2 9=1; way 1 0 2=10");
        says("if a line has none, it cannot be placed so", PAIR, ENDS_0_1, "line 0 1 1=0; place 2 9=-1; told 0 0=index; "
                + "ofLink 0 0=0; ofNode 0 1=0; place 0 9=0; told 0 1=0");
        says("if a line has none, it cannot be placed so", "node 9=0; node 9=1; node 9=2; node 9=3; link 0 1 9=0; "
                + "link 1 2 9=1; link 2 0 9=2; link 2 3 9=3; part 1 1=0; part 1 4=1; part 1 8=2; line 0 1 2=0; line 1 2 2=1; "
                + "place 2 9=-1; ofLink 0 1=0; ofLink 1 1=0; ofLink 2 0=0; ofLink 3 0=0; clear=3; ", ENDS_0_2,
                "line 0 1 2=0; place 2 9=0; way 0 0 2=3");
    }

    private void reserved() {
        says("What is reserved on a link is the greatest one, over each other link", RING, ENDS_0_1, "line 0 1 2=0; "
                + "place 2 9=0; ", ENDS_0_1, "line 0 1 3=0; place 2 9=1; part 1 4=0; part 1 8=1; line 0 1 4=0; place 2 9=2; "
                + "ofLink 0 1=4; ofLink 1 1=5; ofLink 2 1=5; ofLink 3 1=5; ofLink 2 2=1; ofLink 0 2=1; part 1 4=0; "
                + "part 1 8=1; line 0 1 2=0; least=-1; place 2 9=-1; clear=2; part 1 4=0; part 1 8=1; line 0 1 1=0; "
                + "place 2 9=3; ofLink 0 1=5; ofLink 0 2=0; ofLink 1 1=5; ofLink 2 2=0; end 0=nothing; ofLink 1 1=5; "
                + "ofLink 2 1=3; end 3=nothing; ofLink 1 1=4; ofLink 3 1=4; ofLink 2 1=3");
        says("the needs of all lines together whose way has that and whose second way has this one", RING, ENDS_0_2,
                "line 0 1 3=0; place 2 9=0; way 0 0 0=3; way 0 0 2=12; ofLink 2 1=3; ofLink 3 1=3; ", ENDS_0_1, "line 0 1 4=0; "
                + "place 2 9=1; way 1 0 0=1; way 1 0 2=14; ofLink 1 1=4; ofLink 2 1=7; ofLink 3 1=7; part 1 2=0; part 1 4=1; "
                + "line 0 1 2=0; place 2 9=2; way 2 0 0=2; way 2 0 2=13; ofLink 0 1=2; ofLink 1 1=4; ofLink 2 1=7; "
                + "ofLink 3 1=7; load 2 0=7; load 2 1=5");
        says("the needs of all lines together", RING, "part 1 1=0; part 1 2=1; part 1 4=2; line 0 1 3=0; line 0 2 2=1; "
                + "place 2 9=0; way 0 0 0=1; way 0 1 0=3; way 0 0 2=14; way 0 1 2=12; ofLink 1 1=3; ofLink 2 1=5; ofLink 3 1=5; "
                + "ofLink 0 1=0");
        says("The room for second ways is that of the link less all needs there, of the request itself too", RING,
                "part 1 1=0; part 1 2=1; part 1 4=2; line 0 1 6=0; line 1 2 5=1; place 2 9=-1; ofLink 1 1=0; clear=3; "
                + "part 1 1=0; part 1 2=1; part 1 4=2; line 0 1 5=0; line 1 2 5=1; place 2 9=0; ofLink 0 2=0; ofLink 1 2=0");
        says("less all needs there", RING, "part 1 4=0; part 1 8=1; line 0 1 5=0; place 0 9=0; ", ENDS_0_1, "line 0 1 6=0; "
                + "place 2 9=-1; clear=2; ", ENDS_0_1, "line 0 1 5=0; place 2 9=1; ofLink 2 2=0");
    }

    private void failures() {
        says("A link that failed keeps what is there", RING, ENDS_0_1, "line 0 1 6=0; place 2 9=0; fail 0 true=0; "
                + "fail 1 true=1; ofLink 0 0=6; ofLink 0 2=4; ofLink 1 1=6; ofLink 1 2=4; way 0 0 0=1; way 0 0 2=14; "
                + "fail 0 false=0; fail 1 false=0; ofLink 0 0=6; ofLink 1 1=6; ", ENDS_0_1, "line 0 1 5=0; least=-1; "
                + "fail 0 true=0; fail 1 true=1; end 0=nothing; ofLink 0 0=0; ofLink 1 1=0");
        says("A line runs on its way", PAIR, ENDS_0_1, "line 0 1 1=0; place 0 9=0; told 0 5=0; told 0 6=0; fail 0 true=1; "
                + "told 0 5=1; told 0 6=0; fail 0 false=0; told 0 5=0");
        says("or its ways, if none of their links has failed", RING, ENDS_0_1, "line 0 1 12=0; place 1 9=0; told 0 5=0; "
                + "fail 0 true=1; told 0 5=1; fail 0 false=0; told 0 5=0; fail 1 true=1; fail 2 true=1; fail 1 false=1; "
                + "told 0 5=1; fail 2 false=0; told 0 5=0; told 0 6=0");
        says("otherwise on its second way, if it has one, of which none has failed", RING, ENDS_0_1, "line 0 1 2=0; "
                + "place 2 9=0; fail 2 true=0; told 0 6=0; told 0 5=0; fail 2 false=0; fail 0 true=0; told 0 6=1; told 0 5=0; "
                + "fail 3 true=1; told 0 6=0; told 0 5=1; fail 3 false=0; told 0 6=1; fail 0 false=0; told 0 6=0");
        says("otherwise it does not run", RING, "part 1 1=0; part 1 2=1; part 1 4=2; line 0 1 2=0; line 1 2 2=1; place 0 9=0; "
                + "fail 0 true=1; told 0 5=1; fail 3 true=1; told 0 5=1; fail 1 true=1; told 0 5=2; fail 0 false=1; told 0 5=1");
    }

    private void time() {
        says("A tick that passes is 1 more", "pass 1=1; pass 1=2; pass 3=5; now=5");
        says("then requests whose time it is end, and leave their room", "node 9=0; part 4 1=0; place 0 1=0; part 5 1=0; "
                + "place 0 2=1; part 1 1=0; place 0 9=-1; pass 1=1; told 0 0=1; told 1 0=0; ofNode 0 0=4; place 0 1=2; "
                + "pass 1=2; told 1 0=1; told 2 0=1; ofNode 0 0=9; ofNode 0 1=0");
        says("requests whose time it is end", "node 9=0; part 4 1=0; place 0 100=0; pass 99=99; told 0 0=0; pass 1=100; "
                + "told 0 0=1; part 4 1=0; place 0 100=1; pass 100=200; told 1 0=1; told 1 2=200; part 4 1=0; place 0 1=2; "
                + "pass 100=300; told 2 0=1; told 2 2=201");
        says("and leave their room", RING, ENDS_0_1, "line 0 1 6=0; place 2 2=0; ", ENDS_0_2, "line 0 1 12=0; place 1 1=-1; "
                + "pass 2=2; ofLink 0 0=0; ofLink 1 1=0; ofLink 2 2=10; load 1 0=0; place 1 1=1; ofLink 0 0=10; ofLink 2 0=2; "
                + "pass 1=3; ofLink 0 0=0; ofLink 2 0=0; ofNode 0 0=20; ofNode 2 1=0");
        says("requests whose time it is end", "node 9=0; part 4 1=0; place 0 5=0; part 2 1=0; place 0 5=1; end 0=nothing; "
                + "ofNode 0 0=7; pass 5=5; ofNode 0 0=9; ofNode 0 1=0; told 0 2=5; told 1 2=5; end 1=state");
    }

    private void moves() {
        says("To move a part of a request that was placed PLAIN", "node 9=0; node 9=1; part 4 3=0; place 0 9=0; move 0 0 1=0; "
                + "at 0 0=1; move 0 0 0=0; at 0 0=0");
        says("or without being split", RING, "part 1 3=0; part 1 4=1; line 0 1 9=0; place 1 9=0; at 0 0=1; move 0 0 0=2; "
                + "at 0 0=0; way 0 0 0=3; end 0=nothing; part 1 1=0; part 1 4=1; part 1 10=2; line 0 1 11=0; place 1 9=1; "
                + "way 1 0 1=12; move 1 2 3=state; at 1 2=1");
        says("and not SAFE", RING, "part 1 3=0; place 2 9=0; move 0 0 1=state; at 0 0=0; part 1 3=0; part 1 4=1; "
                + "line 0 1 2=0; place 2 9=1; move 1 0 0=state; at 1 0=1");
        says("if it may be there", "node 9=0; node 9=1; node 9=2; part 4 5=0; place 0 9=0; move 0 0 1=-1; at 0 0=0; "
                + "ofNode 0 0=5; ofNode 1 0=9; move 0 0 2=0; move 0 0 1=-1; at 0 0=2");
        says("no other part of it is", "node 9=0; node 9=1; part 1 3=0; part 1 3=1; place 0 9=0; move 0 0 1=-1; "
                + "move 0 1 0=-1; at 0 0=0; at 0 1=1; part 1 3=0; place 0 9=1; at 1 0=0; move 1 0 1=0; at 1 0=1; ofNode 1 1=2");
        says("and there is room", "node 9=0; node 9=1; part 5 3=0; place 0 9=0; part 4 2=0; place 0 9=1; "
                + "part 6 1=0; place 0 9=-1; clear=1; move 0 0 1=0; ofNode 1 0=0; ofNode 0 0=9; part 9 3=0; place 0 9=2; "
                + "end 0=nothing; end 1=nothing; part 1 2=0; place 0 9=3; at 2 0=0; move 2 0 1=-1; end 3=nothing; move 2 0 1=0");
    }

    private void movedLines() {
        says("its lines being taken away", "node 9=0; node 9=1; node 9=2; link 0 1 5=0; link 1 2 5=1; part 1 1=0; part 1 6=1; "
                + "line 0 1 5=0; place 0 9=0; ofLink 0 2=0; move 0 1 2=2; way 0 0 0=3; ofLink 0 0=5; move 0 1 1=1; way 0 0 0=1; "
                + "ofLink 1 0=0");
        says("each of them, line by line, gets the way with the fewest links", RING, "link 0 2 9=4; part 1 1=0; part 1 6=1; "
                + "line 0 1 9=0; place 0 9=0; at 0 1=1; move 0 1 2=1; way 0 0 0=16; move 0 1 1=1; way 0 0 0=1; part 1 1=0; "
                + "part 1 4=1; line 0 1 1=0; place 0 9=1; way 1 0 0=16; move 0 1 2=2; way 0 0 0=3");
        says("gets the way with the fewest links, of several the one that goes first", TWISTED, "part 1 1=0; part 1 6=1; "
                + "line 1 0 3=0; place 0 9=0; move 0 1 2=2; way 0 0 0=10; end 0=nothing; part 1 1=0; part 1 6=1; line 0 1 3=0; "
                + "place 0 9=1; move 1 1 2=2; way 1 0 0=5");
        says("of those with room for it", RING, "part 1 1=0; part 1 10=1; line 0 1 5=0; "
                + "place 0 9=0; part 1 1=0; part 1 8=1; line 0 1 5=0; place 0 9=1; move 0 1 3=1; way 0 0 0=8; ofLink 3 2=0; "
                + "move 0 1 1=1; part 1 1=0; part 1 8=1; line 0 1 1=0; place 0 9=2; move 0 1 3=3; way 0 0 0=7");
        says("line by line", RING, "part 1 1=0; part 1 4=1; part 1 10=2; line 0 2 6=0; line 2 1 6=1; line 0 1 4=2; "
                + "place 0 9=0; at 0 2=1; way 0 2 0=3; move 0 2 3=2; way 0 0 0=8; way 0 1 0=4; way 0 2 0=3; end 0=nothing; "
                + "part 1 1=0; part 1 2=1; part 1 12=2; line 2 0 6=0; line 2 1 6=1; place 0 9=1; at 1 2=2; "
                + "way 1 0 0=12; way 1 1 0=2; move 1 2 3=3; way 1 0 0=8; way 1 1 0=6");
        says("each of them, line by line", FULL, "part 1 1=0; part 1 12=1; part 1 16=2; line 0 1 2=0; line 1 2 3=1; "
                + "line 2 0 4=2; place 0 9=0; at 0 1=3; way 0 0 0=128; way 0 1 0=8; way 0 2 0=256; move 0 1 2=3; "
                + "way 0 0 0=64; way 0 1 0=12; way 0 2 0=256; told 0 7=12; move 0 1 3=2");
        says("other lines of the request stay", RING, "part 1 1=0; part 1 2=1; part 1 12=2; line 0 1 3=0; line 2 0 2=1; "
                + "fail 0 true=0; place 0 9=0; way 0 0 0=14; fail 0 false=0; at 0 2=3; move 0 2 2=2; way 0 0 0=14; way 0 1 0=3; "
                + "told 0 7=13; fail 3 true=1; move 0 2 3=3; way 0 0 0=14; way 0 1 0=7; told 0 5=1");
    }

    private void exceptions() {
        says("A call that throws an exception changes nothing", RING, "part 5 1=0; part 6 6=1; line 0 1 4=0; place 0 9=0; "
                + "part 2 1=0; part 3 4=1; line 1 0 3=0; node 100=argument; link 0 4 5=index; link 0 0 5=argument; "
                + "link 0 2 0=argument; link 1 0 5=state; fail 4 true=index; fail -1 false=index; part 21 1=argument; "
                + "part 1 64=argument; line 0 2 1=index; line 0 0 1=argument; line 0 1 1=state; place 3 5=argument; "
                + "place 0 101=argument; end 1=index; move 0 2 1=index; move 0 1 1=argument; pass 0=argument; "
                + "pass 101=argument; now=0; ofNode 0 0=15; ofNode 1 0=14; ofNode 4 0=index; ofLink 0 0=4; ofLink 3 3=0; "
                + "ofLink 4 0=index; told 0 0=0; at 0 1=1; least=6; place 0 9=1; told 1 3=2; told 1 4=1; way 1 0 0=3");
        says("A call that throws an exception changes nothing", TWELVE, "end 3=nothing; part 4 1=0; place 0 9=state; "
                + "end 3=state; move 3 0 0=argument; node 9=1; move 3 0 1=state; part 1 2=1; line 0 1 7=0; line 0 1 6=state; "
                + "part 2 2=2; part 2 2=state; place 0 9=state; place 0 0=argument; ofNode 0 0=88; ofNode 0 1=11; "
                + "told 3 0=1; told 12 0=index; clear=3");
    }

    private void asking() {
        says("nothing from here on changes anything", RING, "part 5 3=0; part 1 4=1; line 0 1 4=0; place 0 9=0; part 1 1=0; "
                + "part 20 2=1; line 1 0 11=0; now=0; ofNode 0 0=20; ofLink 1 0=4; load 1 0=4; told 0 7=4; at 0 0=1; way 0 0 0=2; "
                + "least=-1; leastAnew=-1; freeing=-1; now=0; ofNode 1 0=15; ofNode 1 1=1; ofNode 2 1=1; ofLink 0 0=0; "
                + "ofLink 1 0=4; at 0 0=1; way 0 0 0=2; told 0 0=0; clear=2; part 20 2=0; freeing=0; leastAnew=-1; least=-1; "
                + "at 0 0=1; way 0 0 0=2; ofNode 0 1=0; ofNode 1 1=1; freeing=0; move 0 0 0=2; least=0; leastAnew=0; place 2 9=1");
    }

    private void firstException() {
        String quote = "the one that is named first in the throws clause is thrown";
        says(quote, SIX, "node 0=argument; node 100=argument; node 1=state");
        says(quote, FULL, "link 0 6 0=index; link 6 6 0=index; link 6 0 10=index; link 0 0 10=argument; "
                + "link 3 3 0=argument; link 0 1 0=argument; link 0 1 100=argument; link 1 3 0=argument; link 0 1 1=state; "
                + "link 1 3 1=state");
        says(quote, SIX, "link 0 1 5=0; link 0 1 0=argument; link 1 0 100=argument; link 1 0 5=state; link 6 0 5=index");
        says(quote, "part 1 1=0; part 1 1=1; part 1 1=2; part 0 1=argument; part 1 0=argument; part 21 64=argument; "
                + "part 1 1=state; line 0 3 0=index; line 3 3 0=index; line 3 3 1=index; line 0 0 1=argument; line 0 1 1=0; "
                + "line 0 1 0=argument; line 1 0 21=argument; line 0 1 1=state; line 0 3 1=index");
        says(quote, "place 3 1=argument; place -1 1=argument; place 0 0=argument; place 0 101=argument; place 0 1=state; ",
                TWELVE, "place 3 1=argument; place 0 0=argument; place 0 1=state; part 1 1=0; place 3 1=argument; "
                + "place 0 101=argument; place 0 1=state");
        says(quote, "node 9=0; node 9=1; part 1 3=0; place 2 9=0; move 0 0 0=argument; move 0 0 1=state; move 0 1 1=index; "
                + "move 0 0 2=index; end 0=nothing; move 0 0 0=argument; move 0 0 1=state; move 0 0 2=index; "
                + "move 0 1 0=index; move 1 0 0=index");
        says(quote, PAIR, "ofNode 2 2=index; ofNode 0 2=argument; ofLink 1 4=index; ofLink 0 4=argument; load 1 1=index; "
                + "load -1 -1=index; load 0 0=argument; told 0 8=index; way 0 0 3=index; part 1 1=0; place 0 9=0; "
                + "told 0 8=argument; told 1 8=index; way 0 0 3=index; ", ENDS_0_1, "line 0 1 1=0; place 0 9=1; "
                + "way 1 0 3=argument; way 1 1 3=index");
    }

    private void whatIsNotThere() {
        String none = "throws IndexOutOfBoundsException if there is no such one";
        says(none, PAIR, "link 0 2 5=index; link 2 0 5=index; link -1 0 5=index; link 0 -1 5=index; link 32 0 5=index; "
                + "ofNode 2 0=index; ofNode -1 0=index; ofNode 32 0=index; ofNode 2147483647 0=index; "
                + "ofNode -2147483648 0=index; part 1 3=0; place 0 9=0; move 0 0 2=index; move 0 0 -1=index; "
                + "move 0 0 33=index; move 0 0 2147483647=index; move 0 0 -2147483648=index");
        says(none, PAIR, "fail 1 true=index; fail -1 true=index; fail 32 true=index; fail 2147483647 true=index; "
                + "fail -2147483648 true=index; ofLink 1 0=index; ofLink -1 0=index; ofLink 32 3=index; "
                + "ofLink 2147483647 3=index; ofLink -2147483648 3=index; load 1 -1=index; load -1 0=index; load 32 -1=index; "
                + "load 0 1=index; load 0 -2=index; load 0 32=index; load 0 2147483647=index; load 0 -2147483648=index; "
                + "ofLink 0 3=0");
        says(none, "line 0 0 1=index; part 1 1=0; line 0 1 1=index; line 1 0 1=index; line -1 0 1=index; line 0 -1 1=index; "
                + "line 0 2147483647 1=index; line -2147483648 0 1=index; part 1 1=1; line 0 1 1=0; line 0 2 1=index; clear=2; "
                + "line 0 1 1=index");
        says(none, TWELVE, "end 12=index; end -1=index; end 2147483647=index; end -2147483648=index; move 12 0 0=index; "
                + "move -1 0 0=index; told 12 0=index; told -1 0=index; told 2147483647 0=index; told -2147483648 0=index; "
                + "at 12 0=index; at -1 0=index; at 0 1=index; at 0 -1=index; at 0 2147483647=index; way 12 0 0=index; "
                + "way -1 0 0=index; way 0 0 0=index; way 0 -1 0=index; move 0 1 0=index; move 0 -1 0=index");
        says(none, "node 9=0; part 1 1=0; told 0 0=index; end 0=index; at 0 0=index; move 0 0 0=index; way 0 0 0=index; "
                + "place 0 9=0; told 0 0=0; at 0 0=0; told 1 0=index");
        says("a request that ended is there still", PAIR, ENDS_0_1, "line 0 1 5=0; place 0 9=0; part 2 2=0; place 0 2=1; "
                + "end 0=nothing; pass 2=2; told 0 0=1; told 1 0=1; told 0 3=2; told 0 4=1; told 0 7=5; told 1 3=1; at 0 0=0; "
                + "at 0 1=1; at 1 0=1; way 0 0 0=1; way 1 0 0=index; end 0=state; end 1=state; move 0 0 0=argument; "
                + "move 0 0 1=state; move 1 0 0=state; part 1 1=0; place 0 9=2; at 2 0=0");
    }
}

/** The ends of what the document's Terms let routers, nets, costs, numbers and ticks be, in every call. */
public final class TermsTest {
    // Beside the nearest ones: those of which 64 times would wrap around to a router or net that is one.
    private static final int[] NO_ROUTERS_OR_NETS = {
        Integer.MIN_VALUE, -64, -2, -1, 64, 65, 127, 128, 4096, 1 << 26, 1 << 30, Integer.MAX_VALUE};
    private static final int[] NO_COSTS = {Integer.MIN_VALUE, -1000, -1, 1001, 1 << 20, Integer.MAX_VALUE};
    private static final int[] ENDS = {0, 63};
    private static final int SELF = 30;

    private interface CallOf {
        void run(StateBench x, int value);
    }

    public static void main(String[] args) {
        itselfIs0To63();
        routersAre0To63();
        netsAre0To63();
        costsOfPortsAre0To1000();
        costsOfEntriesAre1To1000();
        numbersAre1To1000000000();
        ticksAre0To10000();
        whatIs0To2();
        Check.end();
    }

    /** Itself has a port on each end of the nets; the adverts of both ends are there, and a draft is. */
    private static StateBench atBothEnds() {
        StateBench x = new StateBench(SELF);
        for (int end : ENDS) {
            x.port(end, 1);
            Adverts.come(x, end, 1, -1, end, 1);
        }
        x.begin(SELF + 1, 1);
        return x;
    }

    private static void takesTheEnds(String call, int[] ends, CallOf made) {
        for (int end : ends) {
            StateBench x = atBothEnds();
            Check.answers(call + " of " + end, () -> made.run(x, end));
        }
    }

    private static void refusesAll(String call, int[] none, CallOf made) {
        for (int wrong : none) {
            StateBench x = atBothEnds();
            Check.illegalArgument(x, call + " of " + wrong, () -> made.run(x, wrong));
        }
    }

    private static void itselfIs0To63() {
        for (int itself = 0; itself < 64; itself++) {
            StateBench x = new StateBench(itself);
            Check.due("distance(" + itself + ") of itself", x.distance(itself), 0);
            Check.due("distance of another", x.distance((itself + 1) % 64), -1);
        }
        for (int none : NO_ROUTERS_OR_NETS) {
            StateBench x = new StateBench(none);
            x.make();
            Check.due("number(0), itself is " + none, x.number(0), 1);
            Check.due("known(), itself is " + none, x.known(), 1);
        }
    }

    private static void routersAre0To63() {
        routers("friend(.., 0, true)", (x, router) -> x.friend(router, 0, true));
        routers("friend(.., 0, false)", (x, router) -> x.friend(router, 0, false));
        routers("begin(.., 1)", (x, router) -> x.begin(router, 1));
        routers("number", (x, router) -> x.number(router));
        routers("told(.., 0, 0)", (x, router) -> x.told(router, 0, 0));
        routers("entries", (x, router) -> x.entries(router));
        routers("age", (x, router) -> x.age(router));
        routers("distance", (x, router) -> x.distance(router));
        takesTheEnds("entry(.., 1, 1)", new int[] {-1, 0, 63}, (x, router) -> x.entry(router, 1, 1));
        for (int wrong : NO_ROUTERS_OR_NETS) {
            if (wrong != -1) {
                StateBench x = atBothEnds();
                Check.illegalArgument(x, "entry of router " + wrong, () -> x.entry(wrong, 1, 1));
            }
        }
    }

    private static void routers(String call, CallOf made) {
        takesTheEnds(call, ENDS, made);
        refusesAll(call, NO_ROUTERS_OR_NETS, made);
    }

    private static void netsAre0To63() {
        nets("port(.., 1)", (x, net) -> x.port(net, 1));
        nets("port(.., 0)", (x, net) -> x.port(net, 0));
        nets("friend(1, .., true)", (x, net) -> x.friend(1, net, true));
        nets("friend(1, .., false)", (x, net) -> x.friend(1, net, false));
        nets("entry(1, .., 1)", (x, net) -> x.entry(1, net, 1));
        nets("entry(-1, .., 1)", (x, net) -> x.entry(-1, net, 1));
        nets("cost", (x, net) -> x.cost(net));
        nets("firsts", (x, net) -> x.firsts(net));
        refusesAll("first(.., 0)", NO_ROUTERS_OR_NETS, (x, net) -> x.first(net, 0));
    }

    private static void nets(String call, CallOf made) {
        takesTheEnds(call, ENDS, made);
        refusesAll(call, NO_ROUTERS_OR_NETS, made);
    }

    private static void costsOfPortsAre0To1000() {
        takesTheEnds("port(1, ..)", new int[] {0, 1, 1000}, (x, cost) -> x.port(1, cost));
        takesTheEnds("port(0, ..), which it has", new int[] {0, 1, 1000}, (x, cost) -> x.port(0, cost));
        refusesAll("port(1, ..)", NO_COSTS, (x, cost) -> x.port(1, cost));
        refusesAll("port(0, ..), which it has", NO_COSTS, (x, cost) -> x.port(0, cost));
    }

    private static void costsOfEntriesAre1To1000() {
        takesTheEnds("entry(-1, 1, ..)", new int[] {1, 1000}, (x, cost) -> x.entry(-1, 1, cost));
        takesTheEnds("entry(1, 1, ..)", new int[] {1, 1000}, (x, cost) -> x.entry(1, 1, cost));
        refusesAll("entry(-1, 1, ..)", NO_COSTS, (x, cost) -> x.entry(-1, 1, cost));
        refusesAll("entry(1, 1, ..)", NO_COSTS, (x, cost) -> x.entry(1, 1, cost));
        refusesAll("entry(-1, 1, ..)", new int[] {0}, (x, cost) -> x.entry(-1, 1, cost));
        refusesAll("entry(1, 1, ..)", new int[] {0}, (x, cost) -> x.entry(1, 1, cost));
    }

    private static void numbersAre1To1000000000() {
        int[] none = {Integer.MIN_VALUE, -1, 0, 1000000001, Integer.MAX_VALUE};
        for (int origin : new int[] {1, SELF}) {
            takesTheEnds("begin(" + origin + ", ..)", new int[] {1, 1000000000}, (x, n) -> x.begin(origin, n));
            refusesAll("begin(" + origin + ", ..)", none, (x, number) -> x.begin(origin, number));
        }
    }

    private static void ticksAre0To10000() {
        takesTheEnds("pass", new int[] {0, 1, 10000}, (x, ticks) -> x.pass(ticks));
        refusesAll("pass", new int[] {Integer.MIN_VALUE, -10000, -1, 10001, Integer.MAX_VALUE},
                (x, ticks) -> x.pass(ticks));
    }

    private static void whatIs0To2() {
        takesTheEnds("told(63, 0, ..)", new int[] {0, 1, 2}, (x, what) -> x.told(63, 0, what));
        refusesAll("told(63, 0, ..)", new int[] {Integer.MIN_VALUE, -1, 3, Integer.MAX_VALUE},
                (x, what) -> x.told(63, 0, what));
    }
}

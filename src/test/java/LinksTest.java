/** Promises 1 to 3: a new object, port, friend. */
public final class LinksTest {
    private static final int[] WRONG_NETS_AND_ROUTERS = {-2, -1, 64, Integer.MIN_VALUE, Integer.MAX_VALUE};

    public static void main(String[] args) {
        newObject();
        itselfOfNoRouter();
        port();
        portRefuses();
        ninthPort();
        portGoesWithItsFriends();
        portGoesWithTheFirstAndTheLastRouter();
        friend();
        friendRefuses();
        seventeenthFriend();
        sixteenFriendsGoWithOnePort();
        whatIsToldIsInOrder();
        mostThatItTells();
        Check.end();
    }

    private static void newObject() {
        StateBench x = new StateBench(63);
        Check.due("NONE", StateBench.NONE, -1);
        Check.due("time()", x.time(), 0);
        Check.due("known()", x.known(), 0);
        Check.due("number(63)", x.number(63), -1);
        Check.due("distance(63)", x.distance(63), 0);
        Check.due("distance(0)", x.distance(0), -1);
        Check.due("cost(0)", x.cost(0), -1);
        Check.illegalState(x, "come()", () -> x.come());
        Check.illegalState(x, "friend(0, 0, true)", () -> x.friend(0, 0, true));
        Check.illegalArgument(x, "friend(63, 0, true)", () -> x.friend(63, 0, true));
        Check.due("make()", x.make(), 1);
        Check.due("entries(63)", x.entries(63), 0);
    }

    private static void itselfOfNoRouter() {
        for (int wrong : WRONG_NETS_AND_ROUTERS) {
            StateBench x = new StateBench(wrong);
            Check.due("distance(0) of " + wrong, x.distance(0), 0);
            Check.due("make() of " + wrong, x.make(), 1);
            Check.due("number(0) of " + wrong, x.number(0), 1);
        }
    }

    private static void port() {
        StateBench x = new StateBench(0);
        Check.due("port(0, 1)", x.port(0, 1), 0);
        Check.due("port(63, 1000)", x.port(63, 1000), 0);
        Check.due("port(0, 7)", x.port(0, 7), 1);
        Check.due("port(0, 7) again", x.port(0, 7), 7);
        Check.due("port(5, 0)", x.port(5, 0), 0);
        Check.due("port(63, 0)", x.port(63, 0), 1000);
        Check.due("port(63, 0) again", x.port(63, 0), 0);
        x.make();
        Check.due("what it tells", Adverts.entriesOf(x, 0), "-1/0/7 ");
    }

    private static void portRefuses() {
        StateBench x = new StateBench(0);
        for (int wrong : WRONG_NETS_AND_ROUTERS) {
            Check.illegalArgument(x, "port(" + wrong + ", 1)", () -> x.port(wrong, 1));
        }
        Check.illegalArgument(x, "port(1, -1)", () -> x.port(1, -1));
        Check.illegalArgument(x, "port(1, 1001)", () -> x.port(1, 1001));
        Check.due("port(1, 1) after what was refused", x.port(1, 1), 0);
    }

    private static void ninthPort() {
        StateBench x = eightPorts();
        Check.illegalState(x, "port(8, 1)", () -> x.port(8, 1));
        Check.illegalArgument(x, "port(64, 1) of nine", () -> x.port(64, 1));
        Check.illegalArgument(x, "port(8, 1001) of nine", () -> x.port(8, 1001));
        Check.due("port(8, 0) where there is none, none comes", x.port(8, 0), 0);
        Check.due("port(7, 20), one of the eight", x.port(7, 20), 8);
        Check.due("port(3, 0)", x.port(3, 0), 4);
        Check.due("port(8, 1) in its place", x.port(8, 1), 0);
        Check.illegalState(x, "port(3, 1)", () -> x.port(3, 1));
    }

    private static StateBench eightPorts() {
        StateBench x = new StateBench(0);
        for (int net = 0; net < 8; net++) {
            Check.due("port(" + net + ")", x.port(net, net + 1), 0);
        }
        return x;
    }

    private static void portGoesWithItsFriends() {
        StateBench x = new StateBench(0);
        x.port(1, 5);
        x.port(2, 6);
        x.port(3, 7);
        x.friend(9, 1, true);
        x.friend(9, 2, true);
        x.friend(63, 2, true);
        x.friend(1, 2, true);
        x.friend(1, 3, true);
        Check.due("port(2, 8) keeps its friends", x.port(2, 8), 6);
        Check.due("friend(9, 2, true)", x.friend(9, 2, true), false);
        Check.due("port(2, 0)", x.port(2, 0), 8);
        Check.due("port(2, 4)", x.port(2, 4), 0);
        x.make();
        Check.due("what it tells", Adverts.entriesOf(x, 0), "-1/1/5 -1/2/4 -1/3/7 9/1/5 1/3/7 ");
        Check.due("friend(9, 2, true) anew", x.friend(9, 2, true), true);
        x.port(2, 0);
        Check.illegalState(x, "friend(9, 2, false) when the port is gone", () -> x.friend(9, 2, false));
        Check.illegalState(x, "friend(9, 2, true) when the port is gone", () -> x.friend(9, 2, true));
    }

    /** Their neighbours on the next nets stay. */
    private static void portGoesWithTheFirstAndTheLastRouter() {
        StateBench x = new StateBench(4);
        for (int net = 1; net <= 3; net++) {
            x.port(net, net);
            x.friend(0, net, true);
            x.friend(63, net, true);
        }
        Check.due("port(2, 0)", x.port(2, 0), 2);
        Check.due("port(2, 5)", x.port(2, 5), 0);
        x.make();
        Check.due("what it tells", Adverts.entriesOf(x, 4), "-1/1/1 -1/2/5 -1/3/3 0/1/1 63/1/1 0/3/3 63/3/3 ");
    }

    private static void friend() {
        StateBench x = new StateBench(4);
        x.port(0, 3);
        x.port(63, 3);
        Check.due("friend(0, 0, false)", x.friend(0, 0, false), false);
        Check.due("friend(0, 0, true)", x.friend(0, 0, true), true);
        Check.due("friend(0, 0, true) again", x.friend(0, 0, true), false);
        Check.due("friend(0, 63, true) on another net", x.friend(0, 63, true), true);
        Check.due("friend(63, 63, true)", x.friend(63, 63, true), true);
        Check.due("friend(0, 0, false)", x.friend(0, 0, false), true);
        Check.due("friend(0, 0, false) again", x.friend(0, 0, false), false);
        x.make();
        Check.due("what it tells", Adverts.entriesOf(x, 4), "-1/0/3 -1/63/3 0/63/3 63/63/3 ");
    }

    private static void friendRefuses() {
        StateBench x = new StateBench(4);
        x.port(5, 3);
        for (int wrong : WRONG_NETS_AND_ROUTERS) {
            Check.illegalArgument(x, "friend(" + wrong + ", 5, true)", () -> x.friend(wrong, 5, true));
            Check.illegalArgument(x, "friend(1, " + wrong + ", true)", () -> x.friend(1, wrong, true));
        }
        Check.illegalArgument(x, "friend(4, 5, true)", () -> x.friend(4, 5, true));
        Check.illegalArgument(x, "friend(4, 5, false)", () -> x.friend(4, 5, false));
        Check.illegalArgument(x, "friend(4, 6, true), without a port too", () -> x.friend(4, 6, true));
        Check.illegalState(x, "friend(1, 6, true)", () -> x.friend(1, 6, true));
        Check.illegalState(x, "friend(1, 6, false)", () -> x.friend(1, 6, false));
    }

    private static void seventeenthFriend() {
        StateBench x = new StateBench(0);
        x.port(1, 1);
        x.port(2, 1);
        for (int router = 1; router <= 16; router++) {
            Check.due("friend " + router, x.friend(router, 1 + router % 2, true), true);
        }
        Check.illegalState(x, "friend(17, 1, true)", () -> x.friend(17, 1, true));
        Check.illegalState(x, "friend(1, 1, true), one on the other net", () -> x.friend(1, 1, true));
        Check.illegalArgument(x, "friend(0, 1, true) of 17", () -> x.friend(0, 1, true));
        Check.due("friend(17, 1, false) with 16 others", x.friend(17, 1, false), false);
        Check.due("friend(16, 1, true), one of the 16", x.friend(16, 1, true), false);
        Check.due("friend(16, 1, false)", x.friend(16, 1, false), true);
        Check.due("friend(17, 1, true) in its place", x.friend(17, 1, true), true);
        Check.due("port(2, 0) with eight friends", x.port(2, 0), 1);
        for (int router = 20; router < 28; router++) {
            Check.due("friend " + router + " where eight went", x.friend(router, 1, true), true);
        }
        Check.illegalState(x, "friend(28, 1, true)", () -> x.friend(28, 1, true));
    }

    private static void sixteenFriendsGoWithOnePort() {
        StateBench x = new StateBench(0);
        x.port(63, 1);
        x.port(62, 1);
        for (int router = 48; router <= 63; router++) {
            x.friend(router, 63, true);
        }
        Check.illegalState(x, "friend(1, 62, true)", () -> x.friend(1, 62, true));
        x.port(63, 0);
        for (int router = 1; router <= 16; router++) {
            Check.due("friend(" + router + ", 62, true)", x.friend(router, 62, true), true);
        }
        Check.illegalState(x, "friend(17, 62, true)", () -> x.friend(17, 62, true));
    }

    /** 8 ports and 16 friends are just the 24 entries that an advert may have. */
    private static void mostThatItTells() {
        StateBench x = eightPorts();
        StringBuilder ports = new StringBuilder();
        StringBuilder friends = new StringBuilder();
        for (int net = 0; net < 8; net++) {
            x.friend(63, net, true);
            x.friend(62 - net, net, true);
            ports.append("-1/" + net + "/" + (net + 1) + " ");
            friends.append((62 - net) + "/" + net + "/" + (net + 1) + " 63/" + net + "/" + (net + 1) + " ");
        }
        Check.due("make()", x.make(), 1);
        Check.due("entries(0)", x.entries(0), 24);
        Check.due("what it tells", Adverts.entriesOf(x, 0), ports.toString() + friends);
        x.pass(10);
        Check.due("make() of the same 24", x.make(), -1);
        x.friend(63, 7, false);
        x.friend(1, 7, true);
        Check.due("make() of another last one", x.make(), 2);
    }

    private static void whatIsToldIsInOrder() {
        StateBench x = new StateBench(0);
        int[] nets = {9, 3, 63, 0, 12};
        for (int net : nets) {
            x.port(net, net + 1);
        }
        x.friend(7, 12, true);
        x.friend(3, 12, true);
        x.friend(63, 0, true);
        x.friend(5, 12, true);
        x.friend(1, 63, true);
        x.friend(2, 3, true);
        x.make();
        Check.due("what it tells", Adverts.entriesOf(x, 0), "-1/0/1 -1/3/4 -1/9/10 -1/12/13 -1/63/64 "
                + "63/0/1 2/3/4 3/12/13 5/12/13 7/12/13 1/63/64 ");
    }
}

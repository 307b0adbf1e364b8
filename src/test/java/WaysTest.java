/** Promises 13 to 16: distance, cost, firsts, first. */
public final class WaysTest {
    private static final int[] NO_ROUTERS_OR_NETS = {-1, 64, Integer.MIN_VALUE, Integer.MAX_VALUE};

    public static void main(String[] args) {
        refusals();
        bothMustTell();
        eachSideHasItsOwnCost();
        lessOverMore();
        netsOfUnreachedRouters();
        onlyTheBaseCounts();
        allFirstSteps();
        twoNetsToOneFriend();
        ownPortAndOtherWays();
        ownPortThatCostsMore();
        longestChain();
        sixteenFirstSteps();
        stepsOfTheFirstAndTheLast();
        oneMoreOrLessIsNoTie();
        noWayWithoutItsOwnAdvert();
        waysGoWithTheirAdverts();
        eachQuestionSeesTheNewestBase();
        Check.end();
    }

    private static void refusals() {
        StateBench x = new StateBench(0);
        for (int wrong : NO_ROUTERS_OR_NETS) {
            Check.illegalArgument(x, "distance(" + wrong + ")", () -> x.distance(wrong));
            Check.illegalArgument(x, "cost(" + wrong + ")", () -> x.cost(wrong));
            Check.illegalArgument(x, "firsts(" + wrong + ")", () -> x.firsts(wrong));
            Check.illegalArgument(x, "first(" + wrong + ", 0)", () -> x.first(wrong, 0));
            Check.illegalArgument(x, "first(" + wrong + ", -1)", () -> x.first(wrong, -1));
        }
        Check.outOfBounds(x, "first(1, 0)", () -> x.first(1, 0));
        Check.outOfBounds(x, "first(1, -1)", () -> x.first(1, -1));
    }

    /** Itself is 0, with port 5 at a cost of 10 and the friends there told and made. */
    private static StateBench withFriends(int... friends) {
        StateBench x = new StateBench(0);
        x.port(5, 10);
        for (int router : friends) {
            x.friend(router, 5, true);
        }
        x.make();
        return x;
    }

    private static void bothMustTell() {
        StateBench x = withFriends(1);
        Check.due("distance(1) without its advert", x.distance(1), -1);
        Adverts.come(x, 1, 1, -1, 5, 3);
        Check.due("distance(1) if it tells no friend", x.distance(1), -1);
        Adverts.come(x, 1, 2, 0, 6, 3);
        Check.due("distance(1) if it tells it on another net", x.distance(1), -1);
        Adverts.come(x, 1, 3, 2, 5, 3);
        Check.due("distance(1) if it tells another friend", x.distance(1), -1);
        Adverts.come(x, 1, 4, 0, 5, 3);
        Check.due("distance(1)", x.distance(1), 10);
        Adverts.come(x, 2, 1, 0, 5, 3);
        Check.due("distance(2), which itself does not tell", x.distance(2), -1);
    }

    private static void eachSideHasItsOwnCost() {
        StateBench x = withFriends(1);
        Adverts.come(x, 1, 1, 0, 5, 3, 2, 6, 4);
        Adverts.come(x, 2, 1, 1, 6, 100);
        Check.due("distance(0)", x.distance(0), 0);
        Check.due("distance(1) at the cost that 0 tells", x.distance(1), 10);
        Check.due("distance(2) at the cost that 1 tells", x.distance(2), 14);
    }

    private static void lessOverMore() {
        StateBench x = withFriends(1, 2);
        Adverts.come(x, 1, 1, 0, 5, 3, 3, 6, 1, 2, 7, 900);
        Adverts.come(x, 3, 1, 1, 6, 1, 4, 8, 1);
        Adverts.come(x, 4, 1, 3, 8, 1, 2, 9, 1, -1, 20, 5);
        Adverts.come(x, 2, 1, 0, 5, 3, 4, 9, 4, 1, 7, 1, -1, 20, 8);
        Check.due("distance(4) over three", x.distance(4), 12);
        Check.due("distance(2)", x.distance(2), 10);
        Check.due("cost(20) at the farther router", x.cost(20), 17);
        Check.due("first steps of 20", Adverts.firstsOf(x, 20), "5/1 ");
        Adverts.come(x, 4, 2, 3, 8, 1, 2, 9, 1, -1, 20, 7);
        Check.due("cost(20) at the nearer router", x.cost(20), 18);
        Check.due("first steps of 20", Adverts.firstsOf(x, 20), "5/2 ");
        Adverts.come(x, 4, 3, 3, 8, 1, 2, 9, 1, -1, 20, 6);
        Check.due("cost(20) at both", x.cost(20), 18);
        Check.due("first steps of 20", Adverts.firstsOf(x, 20), "5/1 5/2 ");
    }

    private static void netsOfUnreachedRouters() {
        StateBench x = withFriends(1);
        Adverts.come(x, 2, 1, -1, 20, 1);
        Check.due("cost(20)", x.cost(20), -1);
        Check.due("firsts(20)", x.firsts(20), 0);
        Check.due("cost(21), which nobody has", x.cost(21), -1);
        Check.outOfBounds(x, "first(20, 0)", () -> x.first(20, 0));
        Adverts.come(x, 1, 1, 0, 5, 1, 3, 22, 1);
        Check.due("cost(22), where there is a friend but no port", x.cost(22), -1);
    }

    private static void onlyTheBaseCounts() {
        StateBench x = new StateBench(0);
        x.port(5, 10);
        x.friend(1, 5, true);
        Adverts.come(x, 1, 1, 0, 5, 3, -1, 6, 1);
        Check.due("cost(5) before make()", x.cost(5), -1);
        Check.due("distance(1) before make()", x.distance(1), -1);
        x.make();
        Check.due("cost(5)", x.cost(5), 10);
        Check.due("distance(1)", x.distance(1), 10);
        x.port(5, 2);
        Check.due("cost(5) before the next make()", x.cost(5), 10);
        Check.due("firsts(5) before the next make()", x.firsts(5), 0);
        x.port(5, 0);
        Check.due("cost(6) before the next make()", x.cost(6), 11);
        Check.due("first(6, 0) before the next make()", x.first(6, 0), 5 * 64 + 1);
        x.pass(10);
        x.make();
        Check.due("cost(6)", x.cost(6), -1);
    }

    private static void allFirstSteps() {
        StateBench x = new StateBench(0);
        x.port(9, 2);
        x.port(3, 2);
        x.friend(8, 9, true);
        x.friend(4, 9, true);
        x.friend(6, 3, true);
        x.friend(63, 3, true);
        x.friend(7, 3, true);
        x.make();
        Adverts.come(x, 8, 1, 0, 9, 1, 10, 20, 5);
        Adverts.come(x, 4, 1, 0, 9, 1, 10, 20, 5);
        Adverts.come(x, 6, 1, 0, 3, 1, 10, 20, 5);
        Adverts.come(x, 63, 1, 0, 3, 1, 10, 20, 5);
        Adverts.come(x, 7, 1, 0, 3, 1, 10, 20, 6);
        Adverts.come(x, 10, 1, 8, 20, 1, 4, 20, 1, 6, 20, 1, 63, 20, 1, 7, 20, 1, 11, 21, 1);
        Adverts.come(x, 11, 1, 10, 21, 1, -1, 30, 1);
        Check.due("cost(30)", x.cost(30), 9);
        Check.due("firsts(30)", x.firsts(30), 4);
        Check.due("first steps of 30", Adverts.firstsOf(x, 30), "3/6 3/63 9/4 9/8 ");
        Check.due("first(30, 1)", x.first(30, 1), 3 * 64 + 63);
        int[] wrong = {-1, 4, Integer.MIN_VALUE, Integer.MAX_VALUE};
        for (int k : wrong) {
            Check.outOfBounds(x, "first(30, " + k + ")", () -> x.first(30, k));
        }
    }

    private static void twoNetsToOneFriend() {
        StateBench x = new StateBench(0);
        x.port(1, 7);
        x.port(2, 7);
        x.port(3, 8);
        x.friend(5, 1, true);
        x.friend(5, 2, true);
        x.friend(5, 3, true);
        x.make();
        Adverts.come(x, 5, 1, 0, 1, 1, 0, 2, 1, 0, 3, 1, -1, 9, 1);
        Check.due("distance(5)", x.distance(5), 7);
        Check.due("first steps of 9", Adverts.firstsOf(x, 9), "1/5 2/5 ");
    }

    private static void ownPortAndOtherWays() {
        StateBench x = new StateBench(0);
        x.port(1, 3);
        x.port(9, 5);
        x.friend(5, 1, true);
        x.make();
        Adverts.come(x, 5, 1, 0, 1, 1, -1, 9, 2);
        Check.due("cost(9) over the own port and over 5", x.cost(9), 5);
        Check.due("firsts(9) of the own port", x.firsts(9), 0);
        Check.outOfBounds(x, "first(9, 0)", () -> x.first(9, 0));
    }

    private static void ownPortThatCostsMore() {
        StateBench x = new StateBench(0);
        x.port(1, 3);
        x.port(9, 5);
        x.friend(5, 1, true);
        x.make();
        Adverts.come(x, 5, 1, 0, 1, 1, -1, 9, 1);
        Check.due("cost(9) over 5", x.cost(9), 4);
        Check.due("first steps of 9", Adverts.firstsOf(x, 9), "1/5 ");
        x.port(9, 4);
        Check.due("first steps of 9 before make()", Adverts.firstsOf(x, 9), "1/5 ");
        x.pass(10);
        x.make();
        Check.due("firsts(9) when the own port costs as little", x.firsts(9), 0);
    }

    private static void longestChain() {
        StateBench x = new StateBench(0);
        x.port(0, 1000);
        x.friend(1, 0, true);
        x.make();
        for (int router = 1; router < 63; router++) {
            Adverts.come(x, router, 1, router - 1, router - 1, 1000, router + 1, router, 1000);
        }
        Adverts.come(x, 63, 1, 62, 62, 1000, -1, 63, 1000);
        Check.due("distance(63)", x.distance(63), 63000);
        Check.due("cost(63)", x.cost(63), 64000);
        Check.due("first steps of 63", Adverts.firstsOf(x, 63), "0/1 ");
    }

    private static void sixteenFirstSteps() {
        StateBench x = new StateBench(0);
        StringBuilder due = new StringBuilder();
        for (int net = 0; net < 8; net++) {
            x.port(net, 4);
            for (int router = 1; router <= 2; router++) {
                x.friend(2 * net + router, net, true);
                Adverts.come(x, 2 * net + router, 1, 0, net, 1, -1, 63, 3);
                due.append(net).append('/').append(2 * net + router).append(' ');
            }
        }
        x.make();
        Check.due("entries(0)", x.entries(0), 24);
        Check.due("cost(63)", x.cost(63), 7);
        Check.due("firsts(63)", x.firsts(63), 16);
        Check.due("first steps of 63", Adverts.firstsOf(x, 63), due.toString());
        Check.due("first(63, 15)", x.first(63, 15), 7 * 64 + 16);
        Check.outOfBounds(x, "first(63, 16)", () -> x.first(63, 16));
        Check.outOfBounds(x, "first(63, 32)", () -> x.first(63, 32));
    }

    private static void stepsOfTheFirstAndTheLast() {
        StateBench x = new StateBench(30);
        for (int net : new int[] {63, 0}) {
            x.port(net, 1);
            x.friend(63, net, true);
            x.friend(0, net, true);
        }
        x.make();
        Adverts.come(x, 0, 1, 30, 0, 1, 30, 63, 1, -1, 20, 1);
        Adverts.come(x, 63, 1, 30, 0, 1, 30, 63, 1, -1, 20, 1);
        Check.due("first steps of 20", Adverts.firstsOf(x, 20), "0/0 0/63 63/0 63/63 ");
        Check.due("first(20, 0)", x.first(20, 0), 0);
        Check.due("first(20, 3)", x.first(20, 3), 4095);
        Check.due("cost(0), a port of its own", x.cost(0), 1);
        Check.due("cost(63), a port of its own", x.cost(63), 1);
        Check.outOfBounds(x, "first(0, 0)", () -> x.first(0, 0));
    }

    private static void oneMoreOrLessIsNoTie() {
        StateBench x = new StateBench(0);
        x.port(1, 3);
        x.port(9, 5);
        x.friend(5, 1, true);
        x.make();
        int[] portOf5 = {1, 2, 3};
        int[] costOf9 = {4, 5, 5};
        int[] firstsOf9 = {1, 0, 0};
        for (int i = 0; i < portOf5.length; i++) {
            Adverts.come(x, 5, i + 1, 0, 1, 1, -1, 9, portOf5[i]);
            Check.due("cost(9) with " + portOf5[i] + " at 5", x.cost(9), costOf9[i]);
            Check.due("firsts(9) with " + portOf5[i] + " at 5", x.firsts(9), firstsOf9[i]);
        }
    }

    private static void noWayWithoutItsOwnAdvert() {
        StateBench x = new StateBench(0);
        x.port(1, 1);
        x.friend(5, 1, true);
        Adverts.come(x, 5, 1, 0, 1, 1, -1, 9, 1);
        Adverts.come(x, 0, 7, 5, 1, 1, -1, 1, 1);
        Check.due("distance(0)", x.distance(0), 0);
        Check.due("distance(5): one heard of itself is not taken", x.distance(5), -1);
        Check.due("cost(9)", x.cost(9), -1);
        Check.due("cost(1)", x.cost(1), -1);
        Check.due("firsts(9)", x.firsts(9), 0);
        Check.outOfBounds(x, "first(9, 0)", () -> x.first(9, 0));
    }

    private static void waysGoWithTheirAdverts() {
        StateBench x = withFriends(1);
        x.pass(100);
        Adverts.come(x, 1, 1, 0, 5, 1, -1, 7, 1);
        Check.due("cost(7)", x.cost(7), 11);
        x.pass(4899);
        Check.due("cost(7) while its own is 4999 old", x.cost(7), 11);
        x.pass(1);
        Check.due("cost(7) without its own", x.cost(7), -1);
        Check.due("distance(1) without its own", x.distance(1), -1);
        Check.due("distance(0) without its own", x.distance(0), 0);
        x.make();
        Check.due("cost(7) with its own anew", x.cost(7), 11);
        x.pass(100);
        Check.due("cost(7) without that of 1", x.cost(7), -1);
    }

    /** Each question is the first one after a change, so none can lean on what another one found. */
    private static void eachQuestionSeesTheNewestBase() {
        StateBench x = withFriends(1);
        Adverts.come(x, 1, 1, 0, 5, 1, -1, 7, 1);
        Check.due("first(7, 0)", x.first(7, 0), 5 * 64 + 1);
        Adverts.come(x, 1, 2, -1, 7, 1);
        Check.due("firsts(7) without a way to 1", x.firsts(7), 0);
        Adverts.come(x, 1, 3, 0, 5, 1, -1, 7, 2);
        Check.due("cost(7)", x.cost(7), 12);
        Adverts.come(x, 1, 4, -1, 7, 2);
        Check.due("distance(1) without a way to it", x.distance(1), -1);
        Adverts.come(x, 1, 5, 0, 5, 1, -1, 7, 2);
        Check.due("firsts(7)", x.firsts(7), 1);
        x.pass(5000);
        Check.due("firsts(7) when both are out", x.firsts(7), 0);
    }
}

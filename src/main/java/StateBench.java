import java.util.Arrays;

/**
 * What one router knows of all others: adverts by their origins, the newest of each, its own one
 * made anew when it must be, old ones taken out, and the least-cost ways that come of them.
 */
public final class StateBench {
    public static final int NONE = -1;

    private static final int ROUTERS = 64;
    private static final int NETS = 64;
    private static final int MOST_COST = 1000;
    private static final int MOST_NUMBER = 1000000000;
    private static final int MOST_ENTRIES = 24;
    private static final int MOST_PORTS = 8;
    private static final int MOST_FRIENDS = 16;

    private static final int MOST_TIME = 1000000;
    private static final int MOST_TICKS = 10000;
    private static final int MAKING_PAUSE = 10;
    private static final int MAKING_AGE = 2000;
    private static final int LAST_AGE = 5000;

    private static final int WHAT_ROUTER = 0;
    private static final int WHAT_NET = 1;
    private static final int WHAT_COST = 2;

    private static final int TAKEN = 0;
    private static final int SAME_NUMBER = 1;
    private static final int GREATER_NUMBER_THERE = 2;
    private static final int OWN_NEWS = 3;
    private static final int OWN_OLD = 4;

    // The places behind the routers' own are no part of the base: there rows are put together.
    private static final int DRAFT = ROUTERS;
    private static final int WOULD_TELL = ROUTERS + 1;
    private static final int PLACES = ROUTERS + 2;

    private final int self;
    private final Links links;
    private final Adverts adverts;
    private final Ways ways;
    private int draftOrigin;
    private int draftNumber;
    private int now;
    private int lastMade;
    private int greatestOwn;

    public StateBench(int itself) {
        self = isRouter(itself) ? itself : 0;
        links = new Links();
        adverts = new Adverts();
        ways = new Ways(adverts, self);
        draftOrigin = NONE;
        // The first one needs no pause before it.
        lastMade = -MAKING_PAUSE;
    }

    public int port(int net, int cost) throws IllegalArgumentException, IllegalStateException {
        if (!isNet(net) || !(cost == 0 || isCost(cost))) {
            throw new IllegalArgumentException("no net or no cost");
        }
        if (cost != 0 && !links.hasRoomForPort(net)) {
            throw new IllegalStateException("8 other ports");
        }
        return links.setPort(net, cost);
    }

    public boolean friend(int router, int net, boolean is) throws IllegalArgumentException, IllegalStateException {
        if (!isRouter(router) || !isNet(net) || router == self) {
            throw new IllegalArgumentException("no other router or no net");
        }
        if (!links.hasPort(net)) {
            throw new IllegalStateException("no port on the net");
        }
        int step = stepOf(net, router);
        if (links.hasFriend(step) == is) {
            return false;
        }
        if (!is) {
            links.removeFriend(step);
            return true;
        }
        if (!links.hasRoomForFriend()) {
            throw new IllegalStateException("16 other friends");
        }
        links.addFriend(step);
        return true;
    }

    public void begin(int origin, int number) throws IllegalArgumentException {
        if (!isRouter(origin) || number < 1 || number > MOST_NUMBER) {
            throw new IllegalArgumentException("no router or no number");
        }
        draftOrigin = origin;
        draftNumber = number;
        adverts.clear(DRAFT);
    }

    public int entry(int router, int net, int cost) throws IllegalArgumentException, IllegalStateException {
        if (!(router == NONE || isRouter(router)) || !isNet(net) || !isCost(cost)) {
            throw new IllegalArgumentException("no router, no net or no cost");
        }
        // Without a draft there is no origin: NONE must not be taken for one.
        if (draftOrigin != NONE && router == draftOrigin) {
            throw new IllegalArgumentException("the origin is no friend of its own");
        }
        if (draftOrigin == NONE || !adverts.hasRoom(DRAFT) || adverts.has(DRAFT, router, net)) {
            throw new IllegalStateException("no draft, no room in it, or it has that one");
        }
        adverts.append(DRAFT, router, net, cost);
        return adverts.sizes[DRAFT];
    }

    public int come() throws IllegalStateException {
        if (draftOrigin == NONE) {
            throw new IllegalStateException("no draft");
        }
        int origin = draftOrigin;
        draftOrigin = NONE;
        return origin == self ? hearOwn(draftNumber) : hearOther(origin, draftNumber);
    }

    public int pass(int ticks) throws IllegalArgumentException, IllegalStateException {
        if (ticks < 0 || ticks > MOST_TICKS) {
            throw new IllegalArgumentException("ticks are 0 .. 10000");
        }
        if (now + ticks > MOST_TIME) {
            throw new IllegalStateException("time ends at 1000000");
        }
        now += ticks;
        return takeOutOld();
    }

    public int make() {
        if (now - lastMade < MAKING_PAUSE || !mustMake()) {
            return NONE;
        }
        greatestOwn++;
        lastMade = now;
        links.tellInto(adverts, WOULD_TELL);
        takeIn(WOULD_TELL, self, greatestOwn);
        return greatestOwn;
    }

    public int number(int router) throws IllegalArgumentException {
        refuseNoRouter(router);
        return adverts.numbers[router];
    }

    public int told(int router, int k, int what) throws IllegalArgumentException, IndexOutOfBoundsException {
        if (!isRouter(router) || what < WHAT_ROUTER || what > WHAT_COST) {
            throw new IllegalArgumentException("no router, or not 0, 1 or 2");
        }
        if (k < 0 || k >= adverts.sizes[router]) {
            throw new IndexOutOfBoundsException("no such advert or entry");
        }
        int at = Adverts.indexOf(router, k);
        if (what == WHAT_ROUTER) {
            return adverts.routers[at];
        }
        return what == WHAT_NET ? adverts.nets[at] : adverts.costs[at];
    }

    public int entries(int router) throws IllegalArgumentException {
        refuseNoRouter(router);
        return adverts.isThere(router) ? adverts.sizes[router] : NONE;
    }

    public int age(int router) throws IllegalArgumentException {
        refuseNoRouter(router);
        return adverts.isThere(router) ? ageOf(router) : NONE;
    }

    public int distance(int router) throws IllegalArgumentException {
        refuseNoRouter(router);
        ways.refresh();
        return ways.sums[router];
    }

    public int cost(int net) throws IllegalArgumentException {
        refuseNoNet(net);
        ways.refresh();
        return ways.leastTo(net);
    }

    public int firsts(int net) throws IllegalArgumentException {
        refuseNoNet(net);
        ways.refresh();
        return Integer.bitCount(ways.startsTo(net));
    }

    public int first(int net, int k) throws IllegalArgumentException, IndexOutOfBoundsException {
        refuseNoNet(net);
        ways.refresh();
        int starts = ways.startsTo(net);
        if (k < 0 || k >= Integer.bitCount(starts)) {
            throw new IndexOutOfBoundsException("no such first step");
        }
        int at = Adverts.indexOf(self, placeOfBit(starts, k));
        return stepOf(adverts.nets[at], adverts.routers[at]);
    }

    public int known() {
        int count = 0;
        for (int router = 0; router < ROUTERS; router++) {
            if (adverts.isThere(router)) {
                count++;
            }
        }
        return count;
    }

    public int time() {
        return now;
    }

    private int hearOwn(int heard) {
        if (heard <= greatestOwn) {
            return OWN_OLD;
        }
        greatestOwn = heard;
        return OWN_NEWS;
    }

    private int hearOther(int origin, int heard) {
        // Where there is none, the number is NONE, which is less than any.
        if (adverts.numbers[origin] == heard) {
            return SAME_NUMBER;
        }
        if (adverts.numbers[origin] > heard) {
            return GREATER_NUMBER_THERE;
        }
        takeIn(DRAFT, origin, heard);
        return TAKEN;
    }

    private void takeIn(int place, int origin, int itsNumber) {
        adverts.copyEntries(place, origin);
        adverts.numbers[origin] = itsNumber;
        adverts.takenAt[origin] = now;
        ways.forget();
    }

    private int takeOutOld() {
        int out = 0;
        for (int router = 0; router < ROUTERS; router++) {
            if (adverts.isThere(router) && ageOf(router) >= LAST_AGE) {
                adverts.clear(router);
                out++;
            }
        }
        if (out > 0) {
            ways.forget();
        }
        return out;
    }

    private boolean mustMake() {
        // The own one in the base is the last one made, so a greater number can only be a heard one.
        if (!adverts.isThere(self) || ageOf(self) >= MAKING_AGE || greatestOwn > adverts.numbers[self]) {
            return true;
        }
        links.tellInto(adverts, WOULD_TELL);
        return !adverts.haveSameEntries(self, WOULD_TELL);
    }

    private int ageOf(int router) {
        return now - adverts.takenAt[router];
    }

    private static void refuseNoRouter(int router) {
        if (!isRouter(router)) {
            throw new IllegalArgumentException("no router");
        }
    }

    private static void refuseNoNet(int net) {
        if (!isNet(net)) {
            throw new IllegalArgumentException("no net");
        }
    }

    private static boolean isRouter(int router) {
        return router >= 0 && router < ROUTERS;
    }

    private static boolean isNet(int net) {
        return net >= 0 && net < NETS;
    }

    private static boolean isCost(int cost) {
        return cost >= 1 && cost <= MOST_COST;
    }

    private static int stepOf(int net, int router) {
        return ROUTERS * net + router;
    }

    private static int placeOfBit(int bits, int k) {
        int left = bits;
        for (int skipped = 0; skipped < k; skipped++) {
            left &= left - 1;
        }
        return Integer.numberOfTrailingZeros(left);
    }

    /** The ports and friends that itself has now, whatever its advert in the base says. */
    private static final class Links {
        private final int[] portCosts = new int[NETS];
        // As steps, rising: so they stand in the order in which they are told.
        private final int[] friendSteps = new int[MOST_FRIENDS];
        private int portCount;
        private int friendCount;

        boolean hasPort(int net) {
            return portCosts[net] != 0;
        }

        boolean hasRoomForPort(int net) {
            return hasPort(net) || portCount < MOST_PORTS;
        }

        int setPort(int net, int cost) {
            int before = portCosts[net];
            portCosts[net] = cost;
            if (before == 0 && cost != 0) {
                portCount++;
            }
            if (before != 0 && cost == 0) {
                portCount--;
                removeFriendsOn(net);
            }
            return before;
        }

        boolean hasFriend(int step) {
            for (int i = 0; i < friendCount; i++) {
                if (friendSteps[i] == step) {
                    return true;
                }
            }
            return false;
        }

        boolean hasRoomForFriend() {
            return friendCount < MOST_FRIENDS;
        }

        void addFriend(int step) {
            int at = friendCount;
            while (at > 0 && friendSteps[at - 1] > step) {
                friendSteps[at] = friendSteps[at - 1];
                at--;
            }
            friendSteps[at] = step;
            friendCount++;
        }

        void removeFriend(int step) {
            removeFriendsFrom(step, step);
        }

        private void removeFriendsOn(int net) {
            removeFriendsFrom(stepOf(net, 0), stepOf(net, ROUTERS - 1));
        }

        private void removeFriendsFrom(int least, int greatest) {
            int kept = 0;
            for (int i = 0; i < friendCount; i++) {
                int step = friendSteps[i];
                if (step < least || step > greatest) {
                    friendSteps[kept] = step;
                    kept++;
                }
            }
            friendCount = kept;
        }

        void tellInto(Adverts adverts, int place) {
            adverts.clear(place);
            for (int net = 0; net < NETS; net++) {
                if (hasPort(net)) {
                    adverts.append(place, NONE, net, portCosts[net]);
                }
            }
            for (int i = 0; i < friendCount; i++) {
                int net = friendSteps[i] / ROUTERS;
                adverts.append(place, friendSteps[i] % ROUTERS, net, portCosts[net]);
            }
        }
    }

    /** All adverts, each in its place: the base, and behind it the places where rows are put together. */
    private static final class Adverts {
        private final int[] numbers = new int[PLACES];
        private final int[] takenAt = new int[PLACES];
        private final int[] sizes = new int[PLACES];
        private final int[] routers = new int[PLACES * MOST_ENTRIES];
        private final int[] nets = new int[PLACES * MOST_ENTRIES];
        private final int[] costs = new int[PLACES * MOST_ENTRIES];

        Adverts() {
            Arrays.fill(numbers, NONE);
        }

        static int indexOf(int place, int k) {
            return place * MOST_ENTRIES + k;
        }

        boolean isThere(int place) {
            return numbers[place] != NONE;
        }

        void clear(int place) {
            numbers[place] = NONE;
            sizes[place] = 0;
        }

        boolean hasRoom(int place) {
            return sizes[place] < MOST_ENTRIES;
        }

        void append(int place, int router, int net, int cost) {
            if (!hasRoom(place)) {
                return;
            }
            int at = indexOf(place, sizes[place]);
            routers[at] = router;
            nets[at] = net;
            costs[at] = cost;
            sizes[place]++;
        }

        boolean has(int place, int router, int net) {
            return costOf(place, router, net) != NONE;
        }

        /** What the friend, or the port (router NONE), on the net costs there; NONE without one. */
        int costOf(int place, int router, int net) {
            int end = indexOf(place, sizes[place]);
            for (int at = indexOf(place, 0); at < end; at++) {
                if (routers[at] == router && nets[at] == net) {
                    return costs[at];
                }
            }
            return NONE;
        }

        void copyEntries(int from, int to) {
            int size = sizes[from];
            System.arraycopy(routers, indexOf(from, 0), routers, indexOf(to, 0), size);
            System.arraycopy(nets, indexOf(from, 0), nets, indexOf(to, 0), size);
            System.arraycopy(costs, indexOf(from, 0), costs, indexOf(to, 0), size);
            sizes[to] = size;
        }

        boolean haveSameEntries(int one, int other) {
            if (sizes[one] != sizes[other]) {
                return false;
            }
            for (int k = 0; k < sizes[one]; k++) {
                if (!isSameEntry(indexOf(one, k), indexOf(other, k))) {
                    return false;
                }
            }
            return true;
        }

        private boolean isSameEntry(int a, int b) {
            return routers[a] == routers[b] && nets[a] == nets[b] && costs[a] == costs[b];
        }
    }

    /** The least-cost ways from itself, found by the adverts in the base alone. */
    private static final class Ways {
        private final Adverts adverts;
        private final int self;
        private final int[] sums = new int[ROUTERS];
        // Bit k: a least way begins with entry k of the own advert, which has its friends in the
        // order of first steps.
        private final int[] starts = new int[ROUTERS];
        private final boolean[] settled = new boolean[ROUTERS];
        private boolean fresh;

        Ways(Adverts adverts, int self) {
            this.adverts = adverts;
            this.self = self;
        }

        void forget() {
            fresh = false;
        }

        void refresh() {
            if (fresh) {
                return;
            }
            fresh = true;
            beginAnew();
            for (int round = 0; round < ROUTERS; round++) {
                int nearest = nearestUnsettled();
                if (nearest == NONE) {
                    return;
                }
                settled[nearest] = true;
                goOnFrom(nearest);
            }
        }

        private void beginAnew() {
            for (int router = 0; router < ROUTERS; router++) {
                sums[router] = NONE;
                starts[router] = 0;
                settled[router] = false;
            }
            sums[self] = 0;
        }

        private int nearestUnsettled() {
            int nearest = NONE;
            for (int router = 0; router < ROUTERS; router++) {
                if (settled[router] || sums[router] == NONE) {
                    continue;
                }
                if (nearest == NONE || sums[router] < sums[nearest]) {
                    nearest = router;
                }
            }
            return nearest;
        }

        private void goOnFrom(int router) {
            for (int k = 0; k < adverts.sizes[router]; k++) {
                int at = Adverts.indexOf(router, k);
                int next = adverts.routers[at];
                if (next != NONE && adverts.has(next, router, adverts.nets[at])) {
                    int begun = router == self ? 1 << k : starts[router];
                    reach(next, sums[router] + adverts.costs[at], begun);
                }
            }
        }

        // Each cost is 1 or more, so a settled router is never reached as cheaply again, and its
        // starts are whole before any way goes on from it.
        private void reach(int router, int sum, int begun) {
            if (sums[router] == NONE || sum < sums[router]) {
                sums[router] = sum;
                starts[router] = begun;
            } else if (sum == sums[router]) {
                starts[router] |= begun;
            }
        }

        int leastTo(int net) {
            int least = NONE;
            for (int router = 0; router < ROUTERS; router++) {
                int sum = sumOver(router, net);
                if (sum != NONE && (least == NONE || sum < least)) {
                    least = sum;
                }
            }
            return least;
        }

        int startsTo(int net) {
            int least = leastTo(net);
            if (least == NONE || sumOver(self, net) == least) {
                return 0;
            }
            int all = 0;
            for (int router = 0; router < ROUTERS; router++) {
                if (sumOver(router, net) == least) {
                    all |= starts[router];
                }
            }
            return all;
        }

        private int sumOver(int router, int net) {
            int portCost = adverts.costOf(router, NONE, net);
            return sums[router] == NONE || portCost == NONE ? NONE : sums[router] + portCost;
        }
    }
}

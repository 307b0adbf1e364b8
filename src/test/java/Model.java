import java.util.ArrayList;
import java.util.HashMap;
import java.util.List;
import java.util.Map;
import java.util.TreeMap;
import java.util.TreeSet;

/**
 * The document once more, written as plainly as the Java library allows and without a thought for
 * speed, so that ModelTest can hold StateBench against it.
 */
final class Model {
    private static final int FAR = 1000000000;

    private record Entry(int router, int net, int cost) {
    }

    private record Advert(int number, int taken, List<Entry> entries) {
        Integer costOf(int router, int net) {
            for (Entry e : entries) {
                if (e.router == router && e.net == net) {
                    return e.cost;
                }
            }
            return null;
        }
    }

    private final int self;
    private final TreeMap<Integer, Integer> ports = new TreeMap<>();
    private final TreeSet<Integer> friends = new TreeSet<>();
    private final Map<Integer, Advert> base = new HashMap<>();
    private int draftOrigin;
    private int draftNumber;
    private List<Entry> draft;
    private int time;
    private Integer lastMade;
    private int greatestMade;
    private int greatestHeard;

    Model(int itself) {
        self = itself >= 0 && itself <= 63 ? itself : 0;
    }

    private static void legal(boolean is) {
        if (!is) {
            throw new IllegalArgumentException();
        }
    }

    private static void state(boolean is) {
        if (!is) {
            throw new IllegalStateException();
        }
    }

    private static void within(boolean is) {
        if (!is) {
            throw new IndexOutOfBoundsException();
        }
    }

    private static boolean in(int x, int least, int most) {
        return least <= x && x <= most;
    }

    int port(int net, int cost) {
        legal(in(net, 0, 63) && in(cost, 0, 1000));
        state(cost == 0 || ports.containsKey(net) || ports.size() < 8);
        Integer before = cost == 0 ? ports.remove(net) : ports.put(net, cost);
        friends.removeIf(step -> !ports.containsKey(step / 64));
        return before == null ? 0 : before;
    }

    boolean friend(int router, int net, boolean is) {
        legal(in(router, 0, 63) && in(net, 0, 63) && router != self);
        state(ports.containsKey(net));
        int step = 64 * net + router;
        if (!is) {
            return friends.remove(step);
        }
        state(friends.contains(step) || friends.size() < 16);
        return friends.add(step);
    }

    void begin(int origin, int number) {
        legal(in(origin, 0, 63) && in(number, 1, 1000000000));
        draftOrigin = origin;
        draftNumber = number;
        draft = new ArrayList<>();
    }

    int entry(int router, int net, int cost) {
        legal(in(router, -1, 63) && in(net, 0, 63) && in(cost, 1, 1000));
        legal(draft == null || router != draftOrigin);
        state(draft != null && draft.size() < 24);
        state(new Advert(0, 0, draft).costOf(router, net) == null);
        draft.add(new Entry(router, net, cost));
        return draft.size();
    }

    int come() {
        state(draft != null);
        List<Entry> come = draft;
        draft = null;
        if (draftOrigin == self) {
            boolean greater = draftNumber > greatestMade && draftNumber > greatestHeard;
            greatestHeard = Math.max(greatestHeard, draftNumber);
            return greater ? 3 : 4;
        }
        Advert there = base.get(draftOrigin);
        if (there != null && there.number >= draftNumber) {
            return there.number == draftNumber ? 1 : 2;
        }
        base.put(draftOrigin, new Advert(draftNumber, time, come));
        return 0;
    }

    int pass(int ticks) {
        legal(in(ticks, 0, 10000));
        state(time + ticks <= 1000000);
        time += ticks;
        int before = base.size();
        base.values().removeIf(advert -> time - advert.taken >= 5000);
        return before - base.size();
    }

    int make() {
        Advert own = base.get(self);
        boolean must = own == null || !own.entries.equals(wouldTell()) || time - own.taken >= 2000
                || greatestHeard > own.number;
        if (!must || lastMade != null && time - lastMade < 10) {
            return -1;
        }
        lastMade = time;
        greatestMade = Math.max(greatestMade, greatestHeard) + 1;
        base.put(self, new Advert(greatestMade, time, wouldTell()));
        return greatestMade;
    }

    private List<Entry> wouldTell() {
        List<Entry> told = new ArrayList<>();
        ports.forEach((net, cost) -> told.add(new Entry(-1, net, cost)));
        friends.forEach(step -> told.add(new Entry(step % 64, step / 64, ports.get(step / 64))));
        return told;
    }

    int number(int router) {
        legal(in(router, 0, 63));
        return base.containsKey(router) ? base.get(router).number : -1;
    }

    int told(int router, int k, int what) {
        legal(in(router, 0, 63) && in(what, 0, 2));
        within(base.containsKey(router) && in(k, 0, base.get(router).entries.size() - 1));
        Entry e = base.get(router).entries.get(k);
        return what == 0 ? e.router : what == 1 ? e.net : e.cost;
    }

    int entries(int router) {
        legal(in(router, 0, 63));
        return base.containsKey(router) ? base.get(router).entries.size() : -1;
    }

    int age(int router) {
        legal(in(router, 0, 63));
        return base.containsKey(router) ? time - base.get(router).taken : -1;
    }

    int distance(int router) {
        legal(in(router, 0, 63));
        return orNone(sumsFrom(self)[router]);
    }

    int cost(int net) {
        legal(in(net, 0, 63));
        return orNone(leastFrom(self, net));
    }

    int firsts(int net) {
        return steps(net).size();
    }

    int first(int net, int k) {
        List<Integer> steps = steps(net);
        within(in(k, 0, steps.size() - 1));
        return steps.get(k);
    }

    int known() {
        return base.size();
    }

    int time() {
        return time;
    }

    private static int orNone(int sum) {
        return sum >= FAR ? -1 : sum;
    }

    /** The least sums by going over all friends until nothing gets less. */
    private int[] sumsFrom(int start) {
        int[] sums = new int[64];
        java.util.Arrays.fill(sums, FAR);
        sums[start] = 0;
        boolean less = true;
        while (less) {
            less = false;
            for (int from : base.keySet()) {
                for (Entry e : base.get(from).entries) {
                    if (leads(from, e) && sums[from] + e.cost < sums[e.router]) {
                        sums[e.router] = sums[from] + e.cost;
                        less = true;
                    }
                }
            }
        }
        return sums;
    }

    private boolean leads(int from, Entry e) {
        return e.router >= 0 && base.containsKey(e.router) && base.get(e.router).costOf(from, e.net) != null;
    }

    private int leastFrom(int start, int net) {
        int[] sums = sumsFrom(start);
        int least = FAR;
        for (int router : base.keySet()) {
            Integer cost = base.get(router).costOf(-1, net);
            if (cost != null) {
                least = Math.min(least, sums[router] + cost);
            }
        }
        return least;
    }

    /** Tries each friend of itself: does a way that begins with it cost just what the net costs? */
    private List<Integer> steps(int net) {
        legal(in(net, 0, 63));
        TreeSet<Integer> steps = new TreeSet<>();
        int least = leastFrom(self, net);
        Advert own = base.get(self);
        if (own == null || least >= FAR || Integer.valueOf(least).equals(own.costOf(-1, net))) {
            return List.of();
        }
        for (Entry e : own.entries) {
            if (leads(self, e) && e.cost + leastFrom(e.router, net) == least) {
                steps.add(64 * e.net + e.router);
            }
        }
        return new ArrayList<>(steps);
    }
}

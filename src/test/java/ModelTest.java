import java.util.Random;
import java.util.function.IntSupplier;

/** Runs of 512 drawn calls (by fixed seeds), each answered by StateBench and by Model alike. */
public final class ModelTest {
    private static final int RUNS = 600;
    private static final int CALLS = 512;

    private final Random random;
    private final int routers;
    private final int nets;
    private final int costs;
    private final int strange;
    private final int self;
    private final StateBench x;
    private final Model model;

    private ModelTest(long seed) {
        random = new Random(seed);
        int[] sizes = {4, 6, 10, 64};
        routers = sizes[random.nextInt(4)];
        nets = sizes[random.nextInt(4)];
        costs = random.nextBoolean() ? 3 : 1000;
        strange = random.nextBoolean() ? 0 : 3;
        self = random.nextInt(8) == 0 ? 64 : random.nextInt(routers);
        x = new StateBench(self);
        model = new Model(self);
    }

    public static void main(String[] args) {
        for (int seed = 0; seed < RUNS; seed++) {
            ModelTest run = new ModelTest(seed);
            for (int call = 0; call < CALLS; call++) {
                run.draw("seed " + seed + ", call " + call + ": ");
            }
        }
        Check.end();
    }

    /** One of the first ones, or at times (where the run is a strange one) none at all. */
    private int from(int first, int count) {
        if (random.nextInt(100) < strange) {
            int[] wrong = {-2, -1, 64, 1001, Integer.MIN_VALUE, Integer.MAX_VALUE};
            return wrong[random.nextInt(wrong.length)];
        }
        return first + random.nextInt(count);
    }

    private int router() {
        return from(0, routers);
    }

    private int net() {
        return from(0, nets);
    }

    private int cost() {
        return from(1, costs);
    }

    private void draw(String where) {
        int kind = random.nextInt(100);
        if (kind < 8) {
            drawPort(where);
        } else if (kind < 20) {
            drawFriend(where);
        } else if (kind < 27) {
            drawBegin(where);
        } else if (kind < 52) {
            drawEntry(where);
        } else if (kind < 60) {
            same(where + "come()", x::come, model::come);
        } else if (kind < 66) {
            drawPass(where);
        } else if (kind < 72) {
            same(where + "make()", x::make, model::make);
        } else {
            drawQuestion(where, random.nextInt(10));
        }
    }

    private void drawPort(String where) {
        int net = net();
        int cost = random.nextInt(4) == 0 ? 0 : cost();
        same(where + "port(" + net + ", " + cost + ")", () -> x.port(net, cost), () -> model.port(net, cost));
    }

    private void drawFriend(String where) {
        int router = router();
        int net = net();
        boolean is = random.nextInt(5) != 0;
        same(where + "friend(" + router + ", " + net + ", " + is + ")",
                () -> x.friend(router, net, is) ? 1 : 0, () -> model.friend(router, net, is) ? 1 : 0);
    }

    private void drawBegin(String where) {
        int origin = router();
        int number = random.nextInt(50) == 0 ? 1000000000 : from(1, 9);
        IntSupplier real = () -> {
            x.begin(origin, number);
            return 0;
        };
        IntSupplier plain = () -> {
            model.begin(origin, number);
            return 0;
        };
        same(where + "begin(" + origin + ", " + number + ")", real, plain);
    }

    private void drawEntry(String where) {
        int kind = random.nextInt(6);
        int router = kind == 0 ? -1 : kind < 3 ? self : router();
        int net = net();
        int cost = cost();
        same(where + "entry(" + router + ", " + net + ", " + cost + ")",
                () -> x.entry(router, net, cost), () -> model.entry(router, net, cost));
    }

    private void drawPass(String where) {
        int[] usual = {0, 1, 5, 9, 10, 100, 1000, 1999, 2000, 4999, 10000};
        int ticks = random.nextBoolean() ? from(0, 20) : usual[random.nextInt(usual.length)];
        same(where + "pass(" + ticks + ")", () -> x.pass(ticks), () -> model.pass(ticks));
    }

    private void drawQuestion(String where, int kind) {
        int router = router();
        int net = net();
        int k = from(-1, 8);
        int what = from(0, 3);
        String of = "question " + kind + " of router " + router + ", net " + net + ", k " + k + ", what " + what;
        same(where + of, () -> askReal(kind, router, net, k, what), () -> askPlain(kind, router, net, k, what));
    }

    private int askReal(int kind, int router, int net, int k, int what) {
        switch (kind) {
            case 0: return x.number(router);
            case 1: return x.told(router, k, what);
            case 2: return x.entries(router);
            case 3: return x.age(router);
            case 4: return x.distance(router);
            case 5: return x.cost(net);
            case 6: return x.firsts(net);
            case 7: return x.first(net, k);
            case 8: return x.known();
            default: return x.time();
        }
    }

    private int askPlain(int kind, int router, int net, int k, int what) {
        switch (kind) {
            case 0: return model.number(router);
            case 1: return model.told(router, k, what);
            case 2: return model.entries(router);
            case 3: return model.age(router);
            case 4: return model.distance(router);
            case 5: return model.cost(net);
            case 6: return model.firsts(net);
            case 7: return model.first(net, k);
            case 8: return model.known();
            default: return model.time();
        }
    }

    private static void same(String call, IntSupplier real, IntSupplier plain) {
        Check.due(call, answer(real), answer(plain));
    }

    private static String answer(IntSupplier call) {
        try {
            return String.valueOf(call.getAsInt());
        } catch (RuntimeException e) {
            return e.getClass().getName();
        }
    }
}

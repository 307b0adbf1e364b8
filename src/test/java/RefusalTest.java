import java.util.function.Supplier;

/**
 * "Of several exceptions the one named first is thrown; a call that throws changes nothing." Each
 * refused call is made on one of two objects with the same past; from then on both must answer
 * alike, also where no question shows it: ports, friends, the draft, when and what was made or heard.
 */
public final class RefusalTest {
    private static final Class<IllegalArgumentException> ARGUMENT = IllegalArgumentException.class;
    private static final Class<IllegalStateException> STATE = IllegalStateException.class;
    private static final Class<IndexOutOfBoundsException> BOUNDS = IndexOutOfBoundsException.class;
    private static final int SELF = 5;
    private static final int LEAST = Integer.MIN_VALUE;
    private static final int MOST = Integer.MAX_VALUE;

    private interface CallOn {
        void run(StateBench x);
    }

    private final String past;
    private final Supplier<StateBench> made;

    private RefusalTest(String past, Supplier<StateBench> made) {
        this.past = past;
        this.made = made;
    }

    public static void main(String[] args) {
        RefusalTest[] all = {
            new RefusalTest("new", () -> new StateBench(SELF)),
            new RefusalTest("busy", RefusalTest::busy),
            new RefusalTest("full", RefusalTest::full),
            new RefusalTest("at the end of time", RefusalTest::atTheEndOfTime)};
        for (RefusalTest test : all) {
            test.wrongArguments();
        }
        all[0].statesOfANewOne();
        all[1].statesOfABusyOne();
        all[2].statesOfAFullOne();
        all[3].statesOfTheEnd();
        Check.end();
    }

    /** Two adverts and its own in the base, a port changed since, an own one heard, an open draft. */
    private static StateBench busy() {
        StateBench x = new StateBench(SELF);
        x.port(1, 4);
        x.port(2, 6);
        x.friend(7, 1, true);
        x.friend(8, 2, true);
        x.make();
        Adverts.come(x, 7, 3, SELF, 1, 1, -1, 9, 5);
        Adverts.come(x, 8, 4, SELF, 2, 1, -1, 9, 3);
        x.pass(15);
        Adverts.come(x, SELF, 20);
        x.port(2, 60);
        Adverts.draft(x, 7, 30, SELF, 1, 1, -1, 10, 5);
        return x;
    }

    /** 8 ports, 16 friends, a draft with 24 entries; its own one made 9 ticks ago. */
    private static StateBench full() {
        StateBench x = new StateBench(SELF);
        for (int net = 0; net < 8; net++) {
            x.port(net, net + 1);
            x.friend(10, net, true);
            x.friend(11, net, true);
        }
        x.make();
        x.pass(9);
        x.port(0, 100);
        x.begin(11, 1);
        for (int net = 0; net < 12; net++) {
            x.entry(SELF, net, 3);
            x.entry(-1, net, 3);
        }
        return x;
    }

    private static StateBench atTheEndOfTime() {
        StateBench x = busy();
        for (int i = 0; i < 99; i++) {
            x.pass(10000);
        }
        x.pass(5000);
        x.make();
        Adverts.come(x, 8, 1, SELF, 2, 1);
        x.pass(4985);
        return x;
    }

    private void wrongArguments() {
        for (int no : new int[] {LEAST, -2, 64, MOST}) {
            refused("port(" + no + ", 1)", ARGUMENT, x -> x.port(no, 1));
            refused("port(" + no + ", 0)", ARGUMENT, x -> x.port(no, 0));
            refused("friend(" + no + ", 1, true)", ARGUMENT, x -> x.friend(no, 1, true));
            refused("friend(7, " + no + ", true)", ARGUMENT, x -> x.friend(7, no, true));
            refused("friend(7, " + no + ", false)", ARGUMENT, x -> x.friend(7, no, false));
            refused("begin(" + no + ", 99)", ARGUMENT, x -> x.begin(no, 99));
            refused("entry(" + no + ", 50, 1)", ARGUMENT, x -> x.entry(no, 50, 1));
            refused("entry(50, " + no + ", 1)", ARGUMENT, x -> x.entry(50, no, 1));
            refused("told(" + no + ", 0, 0)", ARGUMENT, x -> x.told(no, 0, 0));
            refused("told(" + no + ", -1, 3)", ARGUMENT, x -> x.told(no, -1, 3));
            refused("first(" + no + ", 0)", ARGUMENT, x -> x.first(no, 0));
            refused("first(" + no + ", -1)", ARGUMENT, x -> x.first(no, -1));
        }
        for (int no : new int[] {LEAST, -1, 1001, MOST}) {
            refused("port(1, " + no + ")", ARGUMENT, x -> x.port(1, no));
            refused("port(50, " + no + ")", ARGUMENT, x -> x.port(50, no));
            refused("entry(50, 50, " + no + ")", ARGUMENT, x -> x.entry(50, 50, no));
            refused("told(7, 0, " + no + ")", ARGUMENT, x -> x.told(7, 0, no));
            refused("told(7, 99, " + no + ")", ARGUMENT, x -> x.told(7, 99, no));
        }
        for (int no : new int[] {LEAST, -1, 0, 1000000001, MOST}) {
            refused("begin(8, " + no + ")", ARGUMENT, x -> x.begin(8, no));
            refused("begin(" + SELF + ", " + no + ")", ARGUMENT, x -> x.begin(SELF, no));
        }
        for (int no : new int[] {LEAST, -1, 10001, MOST}) {
            refused("pass(" + no + ")", ARGUMENT, x -> x.pass(no));
        }
        for (int no : new int[] {-1, 64}) {
            refused("number(" + no + ")", ARGUMENT, x -> x.number(no));
            refused("entries(" + no + ")", ARGUMENT, x -> x.entries(no));
            refused("age(" + no + ")", ARGUMENT, x -> x.age(no));
            refused("distance(" + no + ")", ARGUMENT, x -> x.distance(no));
            refused("cost(" + no + ")", ARGUMENT, x -> x.cost(no));
            refused("firsts(" + no + ")", ARGUMENT, x -> x.firsts(no));
        }
        refused("friend(itself, 1, true)", ARGUMENT, x -> x.friend(SELF, 1, true));
        refused("friend(itself, 1, false)", ARGUMENT, x -> x.friend(SELF, 1, false));
        refused("friend(itself, 50, true), where no port is", ARGUMENT, x -> x.friend(SELF, 50, true));
        refused("friend(7, 50, true), where no port is", STATE, x -> x.friend(7, 50, true));
        refused("friend(7, 50, false), where no port is", STATE, x -> x.friend(7, 50, false));
    }

    private void statesOfANewOne() {
        refused("entry(7, 1, 1)", STATE, x -> x.entry(7, 1, 1));
        refused("entry(-1, 1, 1)", STATE, x -> x.entry(-1, 1, 1));
        refused("entry(itself, 1, 1)", STATE, x -> x.entry(SELF, 1, 1));
        refused("come()", STATE, StateBench::come);
        refused("told(7, 0, 0)", BOUNDS, x -> x.told(7, 0, 0));
        refused("told(itself, 0, 2)", BOUNDS, x -> x.told(SELF, 0, 2));
        refused("first(9, 0)", BOUNDS, x -> x.first(9, 0));
    }

    private void statesOfABusyOne() {
        refused("entry(7, 50, 1), the origin", ARGUMENT, x -> x.entry(7, 50, 1));
        refused("entry(itself, 1, 2), which it has", STATE, x -> x.entry(SELF, 1, 2));
        refused("entry(-1, 10, 6), which it has", STATE, x -> x.entry(-1, 10, 6));
        refused("entry(-1, 10, 0), which it has", ARGUMENT, x -> x.entry(-1, 10, 0));
        for (int k : new int[] {LEAST, -1, 2, 24, MOST}) {
            refused("told(7, " + k + ", 0)", BOUNDS, x -> x.told(7, k, 0));
            refused("first(9, " + k + ")", BOUNDS, x -> x.first(9, k));
        }
    }

    private void statesOfAFullOne() {
        refused("port(8, 1)", STATE, x -> x.port(8, 1));
        refused("port(63, 1000)", STATE, x -> x.port(63, 1000));
        refused("port(8, 1001)", ARGUMENT, x -> x.port(8, 1001));
        refused("friend(12, 0, true)", STATE, x -> x.friend(12, 0, true));
        refused("friend(12, 8, true), where no port is", STATE, x -> x.friend(12, 8, true));
        refused("friend(64, 0, true)", ARGUMENT, x -> x.friend(64, 0, true));
        refused("friend(itself, 0, true)", ARGUMENT, x -> x.friend(SELF, 0, true));
        refused("entry(12, 0, 1)", STATE, x -> x.entry(12, 0, 1));
        refused("entry(-1, 12, 1)", STATE, x -> x.entry(-1, 12, 1));
        refused("entry(-1, 0, 3), which it has", STATE, x -> x.entry(-1, 0, 3));
        refused("entry(11, 0, 1), the origin", ARGUMENT, x -> x.entry(11, 0, 1));
        refused("entry(-1, 12, 1001)", ARGUMENT, x -> x.entry(-1, 12, 1001));
    }

    private void statesOfTheEnd() {
        refused("pass(1)", STATE, x -> x.pass(1));
        refused("pass(10000)", STATE, x -> x.pass(10000));
        refused("pass(10001)", ARGUMENT, x -> x.pass(10001));
    }

    private void refused(String call, Class<? extends RuntimeException> due, CallOn refusedCall) {
        StateBench touched = made.get();
        StateBench untouched = made.get();
        String what = call + " on one that is " + past;
        Check.due("what " + what + " throws", Check.whatItThrows(() -> refusedCall.run(touched)), due.getSimpleName());
        Check.due("what follows " + what, future(touched), future(untouched));
    }

    /** What the next calls answer; few enough to stay below the 512 that an object is used for. */
    private static String future(StateBench x) {
        StringBuilder text = new StringBuilder();
        text.append("at first: time ").append(x.time()).append(", known ").append(x.known()).append('\n');
        tellAdverts(x, text);
        for (int net = 0; net < 16; net++) {
            text.append("net ").append(net).append(": ").append(x.cost(net)).append(", ");
            text.append(Adverts.firstsOf(x, net)).append('\n');
        }
        text.append("make ").append(x.make()).append('\n');
        text.append("entry ").append(answer(() -> x.entry(20, 63, 1))).append('\n');
        text.append("come ").append(answer(x::come)).append('\n');
        text.append("pass ").append(answer(() -> x.pass(1))).append('\n');
        text.append("make ").append(x.make()).append('\n');
        tellAdverts(x, text);
        text.append("own ").append(answer(() -> Adverts.come(x, SELF, 21))).append('\n');
        for (int net = 0; net < 10; net++) {
            int there = net;
            text.append("port ").append(answer(() -> x.port(there, 1))).append('\n');
        }
        return text.toString();
    }

    private static void tellAdverts(StateBench x, StringBuilder text) {
        for (int router : new int[] {SELF, 7, 8, 11}) {
            text.append("router ").append(router).append(": ").append(x.number(router)).append(", ");
            text.append(x.age(router)).append(", ").append(x.distance(router)).append(", ");
            text.append(Adverts.entriesOf(x, router)).append('\n');
        }
    }

    private static String answer(Supplier<Integer> call) {
        try {
            return String.valueOf(call.get());
        } catch (RuntimeException e) {
            return e.getClass().getSimpleName();
        }
    }
}

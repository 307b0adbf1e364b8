/** Promises 4 to 6: begin, entry, come. */
public final class DraftTest {
    private static final int[] NO_ROUTERS = {-1, 64, Integer.MIN_VALUE, Integer.MAX_VALUE};

    public static void main(String[] args) {
        beginRefuses();
        beginTakesTheEdges();
        beginInPlaceOfOne();
        beginInPlaceOfAFullOne();
        draftWaits();
        entry();
        entryRefuses();
        entryWithoutDraft();
        entryOfItsOwnDraft();
        twentyFifthEntry();
        comeOfOthers();
        comeAtTheEndsOfNumbers();
        comeOfItself();
        comeOfItselfAtTheEndsOfNumbers();
        comeTakesTheDraftAway();
        Check.end();
    }

    private static void beginRefuses() {
        StateBench x = new StateBench(0);
        Adverts.draft(x, 5, 6, -1, 1, 2);
        for (int wrong : NO_ROUTERS) {
            Check.illegalArgument(x, "begin(" + wrong + ", 1)", () -> x.begin(wrong, 1));
        }
        Check.illegalArgument(x, "begin(1, 0)", () -> x.begin(1, 0));
        Check.illegalArgument(x, "begin(1, -1)", () -> x.begin(1, -1));
        Check.illegalArgument(x, "begin(1, 1000000001)", () -> x.begin(1, 1000000001));
        Check.due("entry(1, 1, 1) to the draft before", x.entry(1, 1, 1), 2);
        Check.due("come()", x.come(), 0);
        Check.due("number(5)", x.number(5), 6);
    }

    private static void beginTakesTheEdges() {
        StateBench x = new StateBench(5);
        Check.due("come of 0", Adverts.come(x, 0, 1), 0);
        Check.due("come of 63", Adverts.come(x, 63, 1000000000), 0);
        Check.due("number(0)", x.number(0), 1);
        Check.due("number(63)", x.number(63), 1000000000);
        Check.due("entries(63)", x.entries(63), 0);
    }

    private static void beginInPlaceOfOne() {
        StateBench x = new StateBench(0);
        Adverts.draft(x, 1, 9, 2, 3, 4, -1, 3, 4);
        x.begin(2, 8);
        Check.due("entry(1, 3, 5)", x.entry(1, 3, 5), 1);
        Check.due("come()", x.come(), 0);
        Check.due("number(1)", x.number(1), -1);
        Check.due("number(2)", x.number(2), 8);
        Check.due("entries of 2", Adverts.entriesOf(x, 2), "1/3/5 ");
    }

    private static void beginInPlaceOfAFullOne() {
        StateBench x = new StateBench(0);
        x.begin(7, 1);
        for (int net = 0; net < 24; net++) {
            x.entry(-1, net, 1);
        }
        x.begin(7, 1);
        Check.due("entry(-1, 23, 2), which the one before had", x.entry(-1, 23, 2), 1);
        x.begin(8, 1);
        Check.due("entry(7, 23, 2), the origin of the one before", x.entry(7, 23, 2), 1);
        Check.illegalArgument(x, "entry(8, 23, 2)", () -> x.entry(8, 23, 2));
    }

    /** It grows old only from when it is taken, and nothing but come and begin takes it away. */
    private static void draftWaits() {
        StateBench x = new StateBench(0);
        Adverts.draft(x, 7, 3, -1, 1, 1);
        x.port(2, 2);
        x.make();
        Check.due("pass(10000): its own one goes, not the draft", x.pass(10000), 1);
        Check.due("entry(1, 1, 1)", x.entry(1, 1, 1), 2);
        Check.due("come()", x.come(), 0);
        Check.due("age(7)", x.age(7), 0);
        Check.due("pass(4999)", x.pass(4999), 0);
        Check.due("entries of 7", Adverts.entriesOf(x, 7), "-1/1/1 1/1/1 ");
    }

    private static void entry() {
        StateBench x = new StateBench(0);
        x.begin(1, 1);
        Check.due("entry(-1, 0, 1)", x.entry(-1, 0, 1), 1);
        Check.due("entry(-1, 63, 1000)", x.entry(-1, 63, 1000), 2);
        Check.due("entry(0, 0, 1000), a friend on the port's net", x.entry(0, 0, 1000), 3);
        Check.due("entry(63, 0, 1), another friend there", x.entry(63, 0, 1), 4);
        Check.due("entry(0, 63, 2), the friend on another net", x.entry(0, 63, 2), 5);
        Check.illegalState(x, "entry(-1, 0, 1) again", () -> x.entry(-1, 0, 1));
        Check.illegalState(x, "entry(-1, 0, 2) with another cost", () -> x.entry(-1, 0, 2));
        Check.illegalState(x, "entry(0, 63, 2) again", () -> x.entry(0, 63, 2));
        Check.illegalState(x, "entry(0, 63, 9) with another cost", () -> x.entry(0, 63, 9));
        Check.due("entry(2, 2, 2)", x.entry(2, 2, 2), 6);
        Check.due("known() before it comes", x.known(), 0);
        x.come();
        Check.due("entries of 1", Adverts.entriesOf(x, 1), "-1/0/1 -1/63/1000 0/0/1000 63/0/1 0/63/2 2/2/2 ");
    }

    private static void entryRefuses() {
        StateBench x = new StateBench(0);
        x.begin(7, 1);
        int[] none = {-2, 64, Integer.MIN_VALUE, Integer.MAX_VALUE};
        for (int wrong : none) {
            Check.illegalArgument(x, "entry(" + wrong + ", 1, 1)", () -> x.entry(wrong, 1, 1));
            Check.illegalArgument(x, "entry(1, " + wrong + ", 1)", () -> x.entry(1, wrong, 1));
        }
        Check.illegalArgument(x, "entry(1, -1, 1)", () -> x.entry(1, -1, 1));
        Check.illegalArgument(x, "entry(7, 1, 1), the origin", () -> x.entry(7, 1, 1));
        int[] noCosts = {0, -1, 1001, Integer.MIN_VALUE, Integer.MAX_VALUE};
        for (int wrong : noCosts) {
            Check.illegalArgument(x, "entry(1, 1, " + wrong + ")", () -> x.entry(1, 1, wrong));
            Check.illegalArgument(x, "entry(-1, 1, " + wrong + ")", () -> x.entry(-1, 1, wrong));
        }
        Check.due("entry(1, 1, 1) after what was refused", x.entry(1, 1, 1), 1);
        Check.illegalArgument(x, "entry(1, 1, 0), which it has", () -> x.entry(1, 1, 0));
    }

    private static void entryWithoutDraft() {
        StateBench x = new StateBench(0);
        Check.illegalState(x, "entry(1, 1, 1)", () -> x.entry(1, 1, 1));
        Check.illegalState(x, "entry(-1, 1, 1)", () -> x.entry(-1, 1, 1));
        Check.illegalArgument(x, "entry(64, 1, 1)", () -> x.entry(64, 1, 1));
        Adverts.come(x, 7, 1);
        Check.illegalState(x, "entry(7, 1, 1) when the draft of 7 is gone", () -> x.entry(7, 1, 1));
        Check.illegalState(x, "entry(-1, 1, 1) when it is gone", () -> x.entry(-1, 1, 1));
    }

    private static void entryOfItsOwnDraft() {
        StateBench x = new StateBench(3);
        x.begin(3, 1);
        Check.illegalArgument(x, "entry(3, 1, 1), the origin and itself", () -> x.entry(3, 1, 1));
        Check.due("entry(4, 1, 1)", x.entry(4, 1, 1), 1);
        x.begin(4, 1);
        Check.due("entry(3, 1, 1), itself but not the origin", x.entry(3, 1, 1), 1);
        x.begin(0, 1);
        Check.illegalArgument(x, "entry(0, 1, 1), the origin", () -> x.entry(0, 1, 1));
        x.begin(63, 1);
        Check.illegalArgument(x, "entry(63, 1, 1), the origin", () -> x.entry(63, 1, 1));
    }

    private static void twentyFifthEntry() {
        StateBench x = new StateBench(0);
        x.begin(7, 1);
        for (int net = 0; net < 24; net++) {
            Check.due("entry(-1, " + net + ", 1)", x.entry(-1, net, 1), net + 1);
        }
        Check.illegalState(x, "entry(-1, 24, 1)", () -> x.entry(-1, 24, 1));
        Check.illegalState(x, "entry(-1, 23, 1), which it has", () -> x.entry(-1, 23, 1));
        Check.illegalState(x, "entry(1, 1, 1)", () -> x.entry(1, 1, 1));
        Check.illegalArgument(x, "entry(7, 1, 1) of 25", () -> x.entry(7, 1, 1));
        Check.due("come()", x.come(), 0);
        Check.due("entries(7)", x.entries(7), 24);
        Check.due("told(7, 23, 1)", x.told(7, 23, 1), 23);
        Check.due("number(8)", x.number(8), -1);
    }

    private static void comeOfOthers() {
        StateBench x = new StateBench(0);
        Check.due("come of 1, 5", Adverts.come(x, 1, 5, -1, 1, 1), 0);
        x.pass(3);
        Check.due("come of 1, 5 again", Adverts.come(x, 1, 5, -1, 2, 2), 1);
        Check.due("come of 1, 4", Adverts.come(x, 1, 4, -1, 3, 3), 2);
        Check.due("age(1)", x.age(1), 3);
        Check.due("number(1)", x.number(1), 5);
        Check.due("entries of 1", Adverts.entriesOf(x, 1), "-1/1/1 ");
        Check.due("come of 2, 4: another origin", Adverts.come(x, 2, 4), 0);
        Check.due("come of 1, 6", Adverts.come(x, 1, 6, -1, 4, 4, 2, 4, 4), 0);
        Check.due("age(1)", x.age(1), 0);
        Check.due("number(1)", x.number(1), 6);
        Check.due("entries of 1", Adverts.entriesOf(x, 1), "-1/4/4 2/4/4 ");
        x.pass(5000);
        Check.due("come of 1, 1 when it is out", Adverts.come(x, 1, 1), 0);
        Check.due("make(): numbers of others do not count", x.make(), 1);
    }

    private static void comeAtTheEndsOfNumbers() {
        StateBench x = new StateBench(5);
        for (int origin : new int[] {0, 63}) {
            Check.due("come of the least", Adverts.come(x, origin, 1), 0);
            Check.due("come of the least again", Adverts.come(x, origin, 1), 1);
            Check.due("come of 2", Adverts.come(x, origin, 2), 0);
            Check.due("come of the least after 2", Adverts.come(x, origin, 1), 2);
            Check.due("come of the greatest but one", Adverts.come(x, origin, 999999999), 0);
            Check.due("come of the greatest", Adverts.come(x, origin, 1000000000), 0);
            Check.due("come of the greatest again", Adverts.come(x, origin, 1000000000), 1);
            Check.due("come of the greatest but one after it", Adverts.come(x, origin, 999999999), 2);
            Check.due("come of the least after the greatest", Adverts.come(x, origin, 1), 2);
            Check.due("number", x.number(origin), 1000000000);
        }
        x.pass(4999);
        Check.due("come of the least at 4999", Adverts.come(x, 63, 1), 2);
        x.pass(1);
        Check.due("come of the least at 5000", Adverts.come(x, 63, 1), 0);
    }

    private static void comeOfItselfAtTheEndsOfNumbers() {
        StateBench x = new StateBench(63);
        Check.due("come of the least", Adverts.come(x, 63, 1), 3);
        Check.due("come of the least again", Adverts.come(x, 63, 1), 4);
        Check.due("make()", x.make(), 2);
        Check.due("come of the one made", Adverts.come(x, 63, 2), 4);
        Check.due("come of one more", Adverts.come(x, 63, 3), 3);
        Check.due("come of the greatest", Adverts.come(x, 63, 1000000000), 3);
        Check.due("come of the greatest again", Adverts.come(x, 63, 1000000000), 4);
        x.pass(10);
        Check.due("make() over the greatest", x.make(), 1000000001);
        Check.due("come of the greatest after that", Adverts.come(x, 63, 1000000000), 4);
        Check.due("known()", x.known(), 1);
    }

    private static void comeOfItself() {
        StateBench x = new StateBench(3);
        Check.due("come of 3, 5", Adverts.come(x, 3, 5, -1, 1, 1), 3);
        Check.due("known()", x.known(), 0);
        Check.due("number(3)", x.number(3), -1);
        Check.due("come of 3, 5 again", Adverts.come(x, 3, 5), 4);
        Check.due("come of 3, 4", Adverts.come(x, 3, 4), 4);
        Check.due("come of 3, 6", Adverts.come(x, 3, 6), 3);
        Check.due("make()", x.make(), 7);
        Check.due("come of 3, 7, which it made", Adverts.come(x, 3, 7), 4);
        Check.due("come of 3, 8", Adverts.come(x, 3, 8, -1, 2, 2), 3);
        Check.due("number(3) is still the one made", x.number(3), 7);
        Check.due("entries(3) too", x.entries(3), 0);
        x.pass(5000);
        Check.due("come of 3, 8 when its own is out", Adverts.come(x, 3, 8), 4);
        Check.due("come of 3, 9 when its own is out", Adverts.come(x, 3, 9), 3);
    }

    private static void comeTakesTheDraftAway() {
        StateBench x = new StateBench(0);
        int[][] drafts = {{1, 5}, {1, 5}, {1, 4}, {0, 9}, {0, 8}};
        for (int answer = 0; answer < drafts.length; answer++) {
            int due = answer;
            Check.due("come for " + due, Adverts.come(x, drafts[answer][0], drafts[answer][1]), due);
            Check.illegalState(x, "come() after " + due, () -> x.come());
            Check.illegalState(x, "entry(2, 1, 1) after " + due, () -> x.entry(2, 1, 1));
        }
    }
}

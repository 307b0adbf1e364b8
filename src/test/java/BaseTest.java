/** Promises 9 to 11: number, told, entries. */
public final class BaseTest {
    private static final int[] NO_ROUTERS = {-1, 64, Integer.MIN_VALUE, Integer.MAX_VALUE};

    public static void main(String[] args) {
        numberAndEntries();
        told();
        toldAtTheEnds();
        toldRefuses();
        draftIsNoPartOfTheBase();
        Check.end();
    }

    private static void numberAndEntries() {
        StateBench x = new StateBench(0);
        Check.due("number(7)", x.number(7), -1);
        Check.due("entries(7)", x.entries(7), -1);
        Adverts.come(x, 7, 12);
        Check.due("number(7)", x.number(7), 12);
        Check.due("entries(7) of an empty one", x.entries(7), 0);
        Adverts.come(x, 7, 13, -1, 1, 1, 0, 1, 1);
        Check.due("number(7)", x.number(7), 13);
        Check.due("entries(7)", x.entries(7), 2);
        Adverts.come(x, 7, 14, -1, 1, 1);
        Check.due("entries(7) of a shorter one", x.entries(7), 1);
        for (int wrong : NO_ROUTERS) {
            Check.illegalArgument(x, "number(" + wrong + ")", () -> x.number(wrong));
            Check.illegalArgument(x, "entries(" + wrong + ")", () -> x.entries(wrong));
        }
    }

    private static void told() {
        StateBench x = new StateBench(0);
        Adverts.come(x, 63, 1, 5, 6, 7, -1, 8, 9);
        Check.due("told(63, 0, 0)", x.told(63, 0, 0), 5);
        Check.due("told(63, 0, 1)", x.told(63, 0, 1), 6);
        Check.due("told(63, 0, 2)", x.told(63, 0, 2), 7);
        Check.due("told(63, 1, 0)", x.told(63, 1, 0), -1);
        Check.due("told(63, 1, 1)", x.told(63, 1, 1), 8);
        Check.due("told(63, 1, 2)", x.told(63, 1, 2), 9);
    }

    /** The neighbours have entries too, so that no row may be read beyond its end. */
    private static void toldAtTheEnds() {
        StateBench x = new StateBench(0);
        for (int origin : new int[] {6, 8, 63}) {
            x.begin(origin, 1);
            for (int net = 0; net < 24; net++) {
                x.entry(-1, net, origin);
            }
            x.come();
        }
        Adverts.come(x, 7, 1);
        Check.outOfBounds(x, "told(7, 0, 0) of an empty one", () -> x.told(7, 0, 0));
        Check.outOfBounds(x, "told(7, -1, 0) of an empty one", () -> x.told(7, -1, 0));
        for (int origin : new int[] {6, 8, 63}) {
            Check.due("told(" + origin + ", 0, 1)", x.told(origin, 0, 1), 0);
            Check.due("told(" + origin + ", 23, 0)", x.told(origin, 23, 0), -1);
            Check.due("told(" + origin + ", 23, 1)", x.told(origin, 23, 1), 23);
            Check.due("told(" + origin + ", 23, 2)", x.told(origin, 23, 2), origin);
            Check.outOfBounds(x, "told(" + origin + ", 24, 0)", () -> x.told(origin, 24, 0));
            Check.outOfBounds(x, "told(" + origin + ", -1, 0)", () -> x.told(origin, -1, 0));
        }
        Check.outOfBounds(x, "told(9, -1, 0) behind a full one", () -> x.told(9, -1, 0));
        x.pass(5000);
        Check.outOfBounds(x, "told(63, 0, 0) when it is out", () -> x.told(63, 0, 0));
    }

    private static void toldRefuses() {
        StateBench x = new StateBench(0);
        Adverts.come(x, 63, 1, 5, 6, 7, -1, 8, 9);
        for (int wrong : NO_ROUTERS) {
            Check.illegalArgument(x, "told(" + wrong + ", 0, 0)", () -> x.told(wrong, 0, 0));
        }
        int[] wrongWhats = {-1, 3, Integer.MIN_VALUE, Integer.MAX_VALUE};
        for (int wrong : wrongWhats) {
            Check.illegalArgument(x, "told(63, 0, " + wrong + ")", () -> x.told(63, 0, wrong));
            Check.illegalArgument(x, "told(63, 9, " + wrong + ")", () -> x.told(63, 9, wrong));
            Check.illegalArgument(x, "told(1, 0, " + wrong + ")", () -> x.told(1, 0, wrong));
        }
        int[] wrongPlaces = {-1, 2, 24, Integer.MIN_VALUE, Integer.MAX_VALUE};
        for (int wrong : wrongPlaces) {
            Check.outOfBounds(x, "told(63, " + wrong + ", 0)", () -> x.told(63, wrong, 0));
        }
        Check.outOfBounds(x, "told(1, 0, 0) without an advert", () -> x.told(1, 0, 0));
        Adverts.come(x, 63, 2, 5, 6, 7);
        Check.outOfBounds(x, "told(63, 1, 0) of a shorter one", () -> x.told(63, 1, 0));
    }

    private static void draftIsNoPartOfTheBase() {
        StateBench x = new StateBench(0);
        Adverts.come(x, 7, 1, -1, 1, 1);
        Adverts.draft(x, 7, 2, -1, 2, 2, -1, 3, 3);
        Check.due("number(7)", x.number(7), 1);
        Check.due("entries of 7", Adverts.entriesOf(x, 7), "-1/1/1 ");
        x.port(4, 4);
        x.make();
        Check.due("come() after make()", x.come(), 0);
        Check.due("entries of 7", Adverts.entriesOf(x, 7), "-1/2/2 -1/3/3 ");
    }
}

/** Promises 7, 12, 17 and 18: pass, age, known, time. */
public final class TimeTest {
    public static void main(String[] args) {
        pass();
        passRefuses();
        endOfTime();
        wholeTicksToTheEnd();
        takesOutAt5000();
        takesOutWhatIsMuchOlder();
        newerOneLivesOn();
        takesOutItsOwn();
        knowsUpTo64();
        age();
        Check.end();
    }

    private static void pass() {
        StateBench x = new StateBench(0);
        Check.due("pass(0)", x.pass(0), 0);
        Check.due("time()", x.time(), 0);
        Check.due("pass(1)", x.pass(1), 0);
        Check.due("pass(10000)", x.pass(10000), 0);
        Check.due("time()", x.time(), 10001);
    }

    private static void passRefuses() {
        StateBench x = new StateBench(0);
        int[] wrong = {-1, 10001, Integer.MIN_VALUE, Integer.MAX_VALUE};
        for (int ticks : wrong) {
            Check.illegalArgument(x, "pass(" + ticks + ")", () -> x.pass(ticks));
        }
    }

    private static void endOfTime() {
        StateBench x = new StateBench(0);
        for (int i = 0; i < 99; i++) {
            x.pass(10000);
        }
        Adverts.come(x, 1, 1);
        x.pass(1000);
        Check.illegalState(x, "pass(9001)", () -> x.pass(9001));
        Check.illegalArgument(x, "pass(10001)", () -> x.pass(10001));
        Check.due("pass(9000)", x.pass(9000), 1);
        Check.due("time()", x.time(), 1000000);
        Check.due("pass(0) at the end", x.pass(0), 0);
        Check.illegalState(x, "pass(1) at the end", () -> x.pass(1));
        Check.illegalArgument(x, "pass(-1) at the end", () -> x.pass(-1));
        Check.due("make() at the end", x.make(), 1);
    }

    private static void takesOutAt5000() {
        StateBench x = new StateBench(0);
        Adverts.come(x, 1, 3, -1, 1, 1);
        x.pass(1);
        Adverts.come(x, 63, 4, -1, 2, 2);
        Check.due("pass(4998)", x.pass(4998), 0);
        Check.due("age(1)", x.age(1), 4999);
        Check.due("pass(1)", x.pass(1), 1);
        Check.due("number(1)", x.number(1), -1);
        Check.due("entries(1)", x.entries(1), -1);
        Check.due("age(1)", x.age(1), -1);
        Check.outOfBounds(x, "told(1, 0, 0)", () -> x.told(1, 0, 0));
        Check.due("age(63)", x.age(63), 4999);
        Check.due("known()", x.known(), 1);
        Check.due("pass(10000)", x.pass(10000), 1);
        Check.due("known()", x.known(), 0);
        Check.due("pass(10000) with none left", x.pass(10000), 0);
    }

    private static void wholeTicksToTheEnd() {
        StateBench x = new StateBench(0);
        for (int i = 1; i <= 100; i++) {
            x.pass(10000);
            Check.due("time()", x.time(), 10000 * i);
        }
        Check.illegalState(x, "pass(10000) at the end", () -> x.pass(10000));
        Check.due("come at the end", Adverts.come(x, 1, 1, -1, 1, 1), 0);
        Check.due("age(1) at the end", x.age(1), 0);
    }

    private static void takesOutWhatIsMuchOlder() {
        StateBench x = new StateBench(9);
        Adverts.come(x, 0, 1);
        x.pass(4999);
        Check.due("pass(0) at 4999", x.pass(0), 0);
        Adverts.come(x, 63, 1);
        Check.due("pass(10000) of one at 4999 and of a new one", x.pass(10000), 2);
        Adverts.come(x, 1, 1);
        Check.due("pass(5001)", x.pass(5001), 1);
        Adverts.come(x, 1, 1);
        Check.due("pass(5000)", x.pass(5000), 1);
    }

    /** Its age is that of the newer one; what came and was not taken makes none younger. */
    private static void newerOneLivesOn() {
        StateBench x = new StateBench(9);
        Adverts.come(x, 1, 1);
        Adverts.come(x, 2, 2);
        x.pass(4999);
        Adverts.come(x, 1, 2);
        Adverts.come(x, 2, 2);
        Adverts.come(x, 2, 1);
        Check.due("pass(1)", x.pass(1), 1);
        Check.due("age(1)", x.age(1), 1);
        Check.due("age(2)", x.age(2), -1);
        Check.due("pass(4998)", x.pass(4998), 0);
        Check.due("pass(1) more", x.pass(1), 1);
    }

    private static void takesOutItsOwn() {
        StateBench x = new StateBench(9);
        x.port(1, 4);
        x.make();
        Check.due("cost(1)", x.cost(1), 4);
        Check.due("pass(4999)", x.pass(4999), 0);
        Check.due("pass(1)", x.pass(1), 1);
        Check.due("number(9)", x.number(9), -1);
        Check.due("cost(1) without it", x.cost(1), -1);
        Check.due("distance(9) without it", x.distance(9), 0);
    }

    private static void knowsUpTo64() {
        StateBench x = new StateBench(9);
        for (int router = 0; router < 64; router++) {
            Check.due("known()", x.known(), router < 10 ? router : router - 1);
            Adverts.come(x, router, router + 1);
        }
        Check.due("known() without its own", x.known(), 63);
        x.make();
        Check.due("known()", x.known(), 64);
        Adverts.come(x, 3, 100);
        Check.due("known() with a newer one", x.known(), 64);
        Check.due("pass(5000)", x.pass(5000), 64);
        Check.due("known()", x.known(), 0);
    }

    private static void age() {
        StateBench x = new StateBench(0);
        Check.due("age(1)", x.age(1), -1);
        x.pass(100);
        Adverts.come(x, 1, 1);
        Check.due("age(1)", x.age(1), 0);
        x.pass(7);
        Check.due("age(1)", x.age(1), 7);
        x.make();
        x.pass(20);
        Check.due("age(0)", x.age(0), 20);
        Check.due("age(1)", x.age(1), 27);
        Check.due("age(63) without one", x.age(63), -1);
        Check.illegalArgument(x, "age(-1)", () -> x.age(-1));
        Check.illegalArgument(x, "age(64)", () -> x.age(64));
    }
}

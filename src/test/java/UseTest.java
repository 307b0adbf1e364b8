/** The example of README.md, call by call. */
public final class UseTest {
    public static void main(String[] args) {
        StateBench x = new StateBench(2);
        Check.due("port(5, 10)", x.port(5, 10), 0);
        Check.due("friend(3, 5, true)", x.friend(3, 5, true), true);
        Check.due("make()", x.make(), 1);

        x.begin(3, 7);
        Check.due("entry(2, 5, 4)", x.entry(2, 5, 4), 1);
        Check.due("entry(-1, 9, 6)", x.entry(-1, 9, 6), 2);
        Check.due("come()", x.come(), 0);

        Check.due("distance(3)", x.distance(3), 10);
        Check.due("cost(9)", x.cost(9), 16);
        Check.due("firsts(9)", x.firsts(9), 1);
        Check.due("first(9, 0)", x.first(9, 0), 323);
        Check.due("told(3, 1, 2)", x.told(3, 1, 2), 6);
        Check.due("pass(5000)", x.pass(5000), 2);
        Check.due("known()", x.known(), 0);
        Check.end();
    }
}

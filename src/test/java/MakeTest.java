/** Promise 8: make. */
public final class MakeTest {
    public static void main(String[] args) {
        makesTheFirst();
        waitsTenTicks();
        waitsWhateverTheCause();
        makesWhatItTells();
        makesWhatMovesToAnotherNet();
        makesNothingForWhatWentBack();
        makesAt2000();
        makesAtTheEndOfTime();
        makesOverAHeardOne();
        makesWhenItsOwnIsOut();
        numbersGoOnOverTheGreatest();
        Check.end();
    }

    private static void makesTheFirst() {
        StateBench x = new StateBench(5);
        Check.due("make()", x.make(), 1);
        Check.due("number(5)", x.number(5), 1);
        Check.due("age(5)", x.age(5), 0);
        Check.due("make() again", x.make(), -1);
        x.pass(1000);
        Check.due("make() with nothing new", x.make(), -1);
        Check.due("age(5)", x.age(5), 1000);
    }

    private static void waitsTenTicks() {
        StateBench x = new StateBench(5);
        x.pass(3);
        Check.due("make()", x.make(), 1);
        x.port(1, 1);
        Check.due("make() at once", x.make(), -1);
        x.pass(9);
        Check.due("make() after 9", x.make(), -1);
        Check.due("number(5)", x.number(5), 1);
        x.pass(1);
        Check.due("make() after 10", x.make(), 2);
        x.port(1, 2);
        x.pass(9);
        Check.due("make() 9 after the second", x.make(), -1);
        x.pass(1);
        Check.due("make() 10 after the second", x.make(), 3);
    }

    private static void waitsWhateverTheCause() {
        StateBench heard = new StateBench(5);
        heard.make();
        Adverts.come(heard, 5, 2);
        Check.due("make() at once of one heard", heard.make(), -1);
        heard.pass(9);
        Check.due("make() after 9 of one heard", heard.make(), -1);
        heard.pass(1);
        Check.due("make() after 10 of one heard", heard.make(), 3);

        StateBench asked = new StateBench(5);
        asked.make();
        asked.port(1, 1);
        asked.pass(9);
        Check.due("make() that may not yet", asked.make(), -1);
        asked.pass(1);
        Check.due("make() 10 after the one made, not the one asked for", asked.make(), 2);
    }

    /** The same costs and routers, so that the net alone tells the difference. */
    private static void makesWhatMovesToAnotherNet() {
        StateBench x = new StateBench(5);
        x.port(3, 4);
        x.make();
        x.port(3, 0);
        x.port(2, 4);
        x.pass(10);
        Check.due("make() of a port on another net", x.make(), 2);
        x.port(6, 4);
        x.friend(1, 2, true);
        x.pass(10);
        Check.due("make()", x.make(), 3);
        x.friend(1, 2, false);
        x.friend(1, 6, true);
        x.pass(10);
        Check.due("make() of a friend on another net", x.make(), 4);
        Check.due("what it tells", Adverts.entriesOf(x, 5), "-1/2/4 -1/6/4 1/6/4 ");
    }

    private static void makesWhatItTells() {
        StateBench x = new StateBench(5);
        x.make();
        int number = 1;
        String[] due = {"-1/3/4 ", "-1/3/4 1/3/4 ", "-1/3/9 1/3/9 ", "-1/3/9 2/3/9 ", "-1/3/9 ", ""};
        for (int step = 0; step < due.length; step++) {
            change(x, step);
            x.pass(10);
            number++;
            Check.due("make() of step " + step, x.make(), number);
            Check.due("what step " + step + " tells", Adverts.entriesOf(x, 5), due[step]);
            Check.due("make() again", x.make(), -1);
            x.pass(10);
            Check.due("make() later", x.make(), -1);
        }
    }

    private static void change(StateBench x, int step) {
        switch (step) {
            case 0: x.port(3, 4); break;
            case 1: x.friend(1, 3, true); break;
            case 2: x.port(3, 9); break;
            case 3: x.friend(1, 3, false); x.friend(2, 3, true); break;
            case 4: x.friend(2, 3, false); break;
            default: x.port(3, 0); break;
        }
    }

    private static void makesNothingForWhatWentBack() {
        StateBench x = new StateBench(5);
        x.port(3, 4);
        x.make();
        x.port(3, 5);
        x.port(3, 4);
        x.pass(10);
        Check.due("make() of what is as it was", x.make(), -1);
    }

    private static void makesAt2000() {
        StateBench x = new StateBench(5);
        x.make();
        x.pass(1999);
        Check.due("make() at 1999", x.make(), -1);
        x.pass(1);
        Check.due("make() at 2000", x.make(), 2);
        Check.due("age(5)", x.age(5), 0);
        x.pass(2500);
        Check.due("make() at 2500", x.make(), 3);
    }

    private static void makesAtTheEndOfTime() {
        StateBench x = new StateBench(5);
        for (int i = 0; i < 99; i++) {
            x.pass(10000);
        }
        x.pass(8000);
        Check.due("make() at 998000", x.make(), 1);
        x.pass(1999);
        Check.due("make() at 999999", x.make(), -1);
        x.pass(1);
        Check.due("make() at 1000000", x.make(), 2);
        x.port(1, 1);
        Check.due("make() when no tick can go by", x.make(), -1);
    }

    private static void makesOverAHeardOne() {
        StateBench x = new StateBench(5);
        x.make();
        x.pass(10);
        Adverts.come(x, 5, 1, -1, 1, 1);
        Check.due("make() after a 1 was heard", x.make(), -1);
        Adverts.come(x, 5, 2);
        Check.due("make() after a 2 was heard", x.make(), 3);
        Adverts.come(x, 5, 100);
        Adverts.come(x, 5, 50);
        Check.due("make() too early", x.make(), -1);
        x.pass(10);
        Check.due("make() after a 100 was heard", x.make(), 101);
        x.pass(10);
        Check.due("make() after it was answered", x.make(), -1);
    }

    private static void makesWhenItsOwnIsOut() {
        StateBench x = new StateBench(5);
        x.make();
        x.pass(5000);
        Check.due("make() when it is out", x.make(), 2);
        Check.due("number(5)", x.number(5), 2);
        Adverts.come(x, 5, 40);
        x.pass(5000);
        Check.due("make() when it is out and a 40 was heard", x.make(), 41);
    }

    private static void numbersGoOnOverTheGreatest() {
        StateBench x = new StateBench(5);
        Adverts.come(x, 5, 1000000000);
        Check.due("make()", x.make(), 1000000001);
        x.port(1, 1);
        x.pass(10);
        Check.due("make()", x.make(), 1000000002);
        Check.due("come of 5, 1000000000", Adverts.come(x, 5, 1000000000), 4);
        Check.due("number(5)", x.number(5), 1000000002);
    }
}

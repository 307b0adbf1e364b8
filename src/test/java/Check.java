/** Counts and prints the answers that are not the ones that are due. */
final class Check {
    interface Call {
        void run();
    }

    private static int wrong = 0;
    private static int asked = 0;

    private Check() {
    }

    static void due(String call, long got, long want) {
        asked++;
        if (got != want) {
            wrong++;
            System.out.println(call + " answered " + got + ", due is " + want);
        }
    }

    static void due(String call, boolean got, boolean want) {
        due(call, got ? 1 : 0, want ? 1 : 0);
    }

    static void due(String what, String got, String want) {
        asked++;
        if (!got.equals(want)) {
            wrong++;
            printFirstDifference(what, got.split("\n", -1), want.split("\n", -1));
        }
    }

    private static void printFirstDifference(String what, String[] got, String[] want) {
        int line = 0;
        while (line < got.length - 1 && line < want.length - 1 && got[line].equals(want[line])) {
            line++;
        }
        System.out.println(what + " is \"" + got[line] + "\", due is \"" + want[line] + "\"");
    }

    /** The call must throw just that class, and leave all that can be asked of the object as it was. */
    static void refuses(StateBench x, String call, Class<? extends RuntimeException> want, Call made) {
        String before = Snapshot.of(x);
        due("what " + call + " throws", whatItThrows(made), want.getSimpleName());
        due("the state after " + call, Snapshot.of(x), before);
    }

    static String whatItThrows(Call made) {
        try {
            made.run();
        } catch (RuntimeException e) {
            return e.getClass().getSimpleName();
        }
        return "nothing";
    }

    /** The call must not throw; what it answers is held elsewhere. */
    static void answers(String call, Call made) {
        due(call, whatItThrows(made), "nothing");
    }

    static void illegalArgument(StateBench x, String call, Call made) {
        refuses(x, call, IllegalArgumentException.class, made);
    }

    static void illegalState(StateBench x, String call, Call made) {
        refuses(x, call, IllegalStateException.class, made);
    }

    static void outOfBounds(StateBench x, String call, Call made) {
        refuses(x, call, IndexOutOfBoundsException.class, made);
    }

    /** Ends the test: exit code 1 if an answer was wrong, or if none was asked for. */
    static void end() {
        System.out.println(asked + " answers, " + wrong + " not as due");
        if (wrong != 0 || asked == 0) {
            System.exit(1);
        }
    }
}

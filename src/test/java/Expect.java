/** What the tests say of answers that are not the ones that are due. */
final class Expect {
    interface Call {
        int make();
    }

    private static int wrong = 0;

    private Expect() {
    }

    static void due(String what, long got, long want) {
        if (got != want) {
            wrong++;
            System.out.println(what + " answered " + got + ", due is " + want);
        }
    }

    static void isTrue(String what, boolean got) {
        due(what, got ? 1 : 0, 1);
    }

    static void index(String what, Call call) {
        throwing(what, IndexOutOfBoundsException.class, call);
    }

    static void argument(String what, Call call) {
        throwing(what, IllegalArgumentException.class, call);
    }

    static void state(String what, Call call) {
        throwing(what, IllegalStateException.class, call);
    }

    private static void throwing(String what, Class<?> kind, Call call) {
        String got;
        try {
            got = "answered " + call.make();
        } catch (RuntimeException thrown) {
            if (thrown.getClass() == kind) {
                return;
            }
            got = "threw " + thrown;
        }
        wrong++;
        System.out.println(what + " " + got + ", due is " + kind.getSimpleName());
    }

    /** The numbers of a value, up to the first NONE. */
    static String parts(Choicepoint x, int value) {
        StringBuilder row = new StringBuilder();
        for (int place = 0; x.part(value, place) != Choicepoint.NONE; place++) {
            row.append(place == 0 ? "" : " ").append(x.part(value, place));
        }
        return row.toString();
    }

    static String bounds(Choicepoint x, int value, int name) {
        StringBuilder row = new StringBuilder();
        for (int place = 0; x.bound(value, name, place) != Choicepoint.NONE; place++) {
            row.append(place == 0 ? "" : " ").append(x.bound(value, name, place));
        }
        return row.toString();
    }

    static String fates(Choicepoint x, int value) {
        StringBuilder row = new StringBuilder();
        for (int place = 0; x.fate(value, place) != Choicepoint.NONE; place++) {
            row.append(place == 0 ? "" : " ").append(x.fate(value, place));
        }
        return row.toString();
    }

    static void row(String what, String got, String want) {
        if (!got.equals(want)) {
            wrong++;
            System.out.println(what + " answered " + got + ", due is " + want);
        }
    }

    /** The goal is searched in depth: how many runs had a value, failed, floated, were cut, and were made. */
    static void outcomes(String what, Choicepoint x, int goal, String want) {
        x.goal(goal);
        x.search(Choicepoint.DEPTH, 0);
        StringBuilder row = new StringBuilder();
        for (int number = 0; number < 5; number++) {
            row.append(number == 0 ? "" : " ").append(x.count(number));
        }
        row(what + ": value, failed, floated, cut, all", row.toString(), want);
    }

    static void end(String test) {
        System.out.println(test + (wrong == 0 ? ": all answers are as due" : ": " + wrong + " answers are not as due"));
        if (wrong != 0) {
            System.exit(1);
        }
    }
}

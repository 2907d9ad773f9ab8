import java.util.ArrayList;
import java.util.List;

/** What the boundary tests share: scenes, and checks of what a call answers and of what it changes. */
class Checks {
    static final int BAD = -1, FULL = -2, FINDING = -3, STATE = -4, SPENT = -6, NONE = -9;
    static final int NOTHING = 1, BEYOND = 2, UNLIKE = 3, NOUGHT = 4, SIZE = 5;
    static final int MIN = Integer.MIN_VALUE, MAX = Integer.MAX_VALUE;

    private static int passed = 0;
    private static int failed = 0;

    Checks() {
    }

    /** A call of an object. */
    interface Call {
        long on(SnowTracks x);
    }

    /** A call of an object with a number (of a row, a text, a track, a place). */
    interface NumberCall {
        long on(SnowTracks x, int number);
    }

    /** Makes an object, each time alike. */
    interface Scene {
        SnowTracks make();

        /** The scene gone on from by a call, whatever it answers. */
        default Scene then(Call call) {
            return () -> {
                SnowTracks x = make();
                call.on(x);
                return x;
            };
        }

        /** The scene with ints in a row. */
        default Scene row(int r, int... ints) {
            return then(x -> lay(x, r, ints));
        }
    }

    static void due(String name, long got, long want) {
        if (got == want) {
            passed++;
        } else {
            failed++;
            System.out.println(name + " answered " + got + ", due is " + want);
        }
    }

    static void finish() {
        System.out.println(passed + " passed, " + failed + " failed");
        if (failed != 0) {
            System.exit(1);
        }
    }

    // ---- scenes

    static long write(SnowTracks x, int t, String signs) {
        x.text(t, signs.length());
        for (int i = 0; i < signs.length(); i++) {
            if (signs.charAt(i) != ' ') {
                x.put(t, i, signs.charAt(i));
            }
        }
        return signs.length();
    }

    static long lay(SnowTracks x, int r, int... ints) {
        x.row(r, ints.length);
        for (int i = 0; i < ints.length; i++) {
            x.lay(r, i, ints[i]);
        }
        return ints.length;
    }

    /** An object with the pass of a text (0) and nothing else. */
    static SnowTracks bare(String signs) {
        SnowTracks x = new SnowTracks();
        write(x, 0, signs);
        due("fault of \"" + signs + "\"", x.fault(0), NONE);
        x.pass(0);
        return x;
    }

    /**
     * A pass, and about it all that a refused call could disturb: rows 3 (two ints) and 4 (none),
     * texts 0 (the pass), 1 and 3, passes kept in 0 and 2 (unlike this one and one another),
     * asked() 7, a fraction of 1 by 2. Rows 0, 1, 2, 5, text 2, the pass kept in 1 are missing.
     */
    static Scene of(String signs) {
        return () -> {
            SnowTracks x = new SnowTracks();
            write(x, 1, "f00f00");
            x.pass(1);
            x.odds(0, 1);
            write(x, 0, signs);
            due("pass of \"" + signs + "\"", x.pass(0) >= 0 ? 1 : 0, 1);
            keepOthers(x);
            lay(x, 3, 7, -7);
            x.row(4, 0);
            write(x, 3, "x>");
            x.at(3, 0);
            return x;
        };
    }

    private static void keepOthers(SnowTracks x) {
        if (x.count(0) == 0) {
            return;
        }
        int last = x.count(0) - 1;
        int was = x.fill(last, 5);
        x.wind(1);
        x.keep(0);
        x.fill(last, 8);
        x.wind(0);
        x.keep(2);
        x.fill(last, was);
    }

    /** So many feet without fills that are seen. */
    static String feet(int n) {
        return "f0-".repeat(n);
    }

    static String times(String item, int n) {
        return item.repeat(n);
    }

    // ---- what a call answers and changes

    /** All that can be seen of an object but finding() and findings(). It is used up by this. */
    private static List<Long> seen(SnowTracks x) {
        List<Long> all = new ArrayList<>();
        all.add((long) x.asked());
        all.add(x.upper());
        all.add(x.lower());
        all.add(x.digest());
        for (int k = 0; k < x.count(1); k++) {
            all.add((long) x.crossing(k));
            all.add((long) x.asked());
        }
        x.orders();
        all.add(x.upper());
        for (int k = 0; k < 3; k++) {
            all.add((long) x.on(k));
            all.add(x.digest());
        }
        return all;
    }

    /** A finding ahead of the call that is tested, another one than it is to have. */
    private static int findAnother(SnowTracks x, int finding) {
        if (finding == SIZE) {
            x.crossing(16);
            return BEYOND;
        }
        x.row(0, -1);
        return SIZE;
    }

    private static void answersAlone(String name, Scene scene, Call call, int answer, int finding) {
        SnowTracks x = scene.make();
        SnowTracks twin = scene.make();
        int before = findAnother(x, finding);
        findAnother(twin, finding);
        due(name, call.on(x), answer);
        due(name + ": finding()", x.finding(), finding == 0 ? before : finding);
        for (int f = NOTHING; f <= SIZE; f++) {
            int more = f == finding ? 1 : 0;
            due(name + ": findings(" + f + ")", x.findings(f), twin.findings(f) + more);
        }
        due(name + ": nothing else changed", seen(x).equals(seen(twin)) ? 1 : 0, 1);
    }

    /** The call is refused by BAD, FULL, STATE: its answer, and that nothing changed. */
    static void refused(String name, Scene scene, Call call, int answer) {
        answersAlone(name, scene, call, answer, 0);
    }

    /** The call is refused by a finding: which, and that nothing else changed. */
    static void found(String name, Scene scene, Call call, int finding) {
        answersAlone(name, scene, call, FINDING, finding);
    }

    /** The call is not refused, but nothing changes, asked() and fractions neither. */
    static void tellsAlone(String name, Scene scene, Call call, int answer) {
        answersAlone(name, scene, call, answer, 0);
    }

    /** The call on a new object of the scene: its answer. */
    static void answers(String name, Scene scene, Call call, long answer) {
        SnowTracks x = scene.make();
        int finding = x.finding();
        due(name, call.on(x), answer);
        due(name + ": no finding", x.finding(), finding);
    }

    /** The call's answer, and what asked() tells behind it. */
    static void asks(String name, Scene scene, Call call, long answer, int asked) {
        SnowTracks x = scene.make();
        due(name, call.on(x), answer);
        due(name + ": asked()", x.asked(), asked);
        due(name + ": upper()", x.upper(), scene.make().upper());
    }

    /** The call answers 1, and tells a fraction. */
    static void fraction(String name, Scene scene, Call call, long upper, long lower) {
        SnowTracks x = scene.make();
        int asked = x.asked();
        due(name, call.on(x), 1);
        due(name + ": upper()", x.upper(), upper);
        due(name + ": lower()", x.lower(), lower);
        due(name + ": asked()", x.asked(), asked);
    }

    /** A row's size and places. */
    static void rowIs(String name, SnowTracks x, int r, int... ints) {
        for (int i = 0; i < ints.length; i++) {
            due(name + ": at(" + r + ", " + i + ")", x.at(r, i), 1);
            due(name + ": place " + i, x.asked(), ints[i]);
        }
        due(name + ": its end", x.at(r, ints.length), FINDING);
        due(name + ": its end is BEYOND", x.finding(), BEYOND);
    }

    /** Numbers below the first and above the last one are BAD. */
    static void numbers(String name, Scene scene, int first, int last, NumberCall call) {
        for (int wrong : new int[] {MIN, first - 1, last + 1, MAX}) {
            refused(name + " by " + wrong, scene, x -> call.on(x, wrong), BAD);
        }
    }

    /** That a call with the first and with the last number is as due. */
    static void ends(String name, Scene scene, int first, int last, NumberCall call, long answer) {
        answers(name + " by " + first, scene, x -> call.on(x, first), answer);
        answers(name + " by " + last, scene, x -> call.on(x, last), answer);
    }
}

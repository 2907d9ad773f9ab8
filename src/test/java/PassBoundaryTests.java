/** The boundary cases of the promises 1 to 20: rows, texts, passes. */
public final class PassBoundaryTests extends Checks {
    private static final Scene NEW = () -> new SnowTracks();
    private static final Scene PLAIN = of("f45h1-e09 1>00>1");
    private static final String SIXTEEN = times("0>1", 16);

    private PassBoundaryTests() {
    }

    public static void main(String[] args) {
        promise1();
        promise2();
        promise3();
        promise4();
        promise5();
        promise6();
        copyWithinItself();
        promise7();
        promise8();
        promise9();
        promise10();
        promise11();
        passesAnew();
        promise12();
        promise13();
        promise14();
        marksOfKinds();
        promise15();
        promise16();
        promise17();
        promise18();
        promise19();
        promise20();
        finish();
    }

    private static void promise1() {
        for (int what = 0; what <= 7; what++) {
            int which = what;
            answers("new: count(" + what + ")", NEW, x -> x.count(which), 0);
        }
        answers("new: wind", NEW, x -> x.wind(0), 0);
        answers("new: finding()", NEW, x -> x.finding(), 0);
        for (int k = 0; k < 3; k++) {
            int place = k;
            found("new: on(" + k + ")", NEW, x -> x.on(place), NOTHING);
        }
        refused("new: track 0", NEW, x -> x.track(0, 0), BAD);
        found("new: crossing 0", NEW, x -> x.crossing(0), BEYOND);
    }

    // ---- rows

    private static void promise2() {
        for (int n : new int[] {0, 1, 39, 40}) {
            for (int r : new int[] {0, 1, 3, 4, 5}) {
                answers("row(" + r + ", " + n + ")", PLAIN, x -> x.row(r, n), n);
                rowIs("row(" + r + ", " + n + ")", PLAIN.then(x -> x.row(r, n)).make(), r, new int[n]);
            }
        }
        refused("row(3, 41)", PLAIN, x -> x.row(3, 41), BAD);
        refused("row(0, 41)", PLAIN, x -> x.row(0, 41), BAD);
        refused("row(3, MAX)", PLAIN, x -> x.row(3, MAX), BAD);
        found("row(3, -1)", PLAIN, x -> x.row(3, -1), SIZE);
        found("row(0, -1)", PLAIN, x -> x.row(0, -1), SIZE);
        found("row(3, MIN)", PLAIN, x -> x.row(3, MIN), SIZE);
        refused("row(-1, -1)", PLAIN, x -> x.row(-1, -1), BAD);
        refused("row(6, 41)", PLAIN, x -> x.row(6, 41), BAD);
        SnowTracks x = NEW.make();
        x.row(0, 40);
        x.lay(0, 39, 5);
        x.row(0, 39);
        x.row(0, 40);
        x.at(0, 39);
        due("row: what was there is gone", x.asked(), 0);
        due("row: the count of rows", x.count(6), 1);
        tellsAlone("row: a row as it was", PLAIN, y -> y.row(4, 0), 0);
    }

    private static void promise3() {
        asks("lay at the first place", PLAIN, x -> x.lay(3, 0, 1), 1, 7);
        asks("lay at the last place", PLAIN, x -> x.lay(3, 1, 1), 1, -7);
        rowIs("lay", PLAIN.then(x -> x.lay(3, 1, MIN)).make(), 3, 7, MIN);
        rowIs("lay", PLAIN.then(x -> x.lay(3, 0, MAX)).make(), 3, MAX, -7);
        asks("lay over the least", PLAIN.then(x -> x.lay(3, 0, MIN)), x -> x.lay(3, 0, MAX), 1, MIN);
        asks("lay over the greatest", PLAIN.then(x -> x.lay(3, 0, MAX)), x -> x.lay(3, 0, 0), 1, MAX);
        asks("lay at place 39", NEW.then(x -> x.row(5, 40)), x -> x.lay(5, 39, 1), 1, 0);
        found("lay at place 40", NEW.then(x -> x.row(5, 40)), x -> x.lay(5, 40, 1), BEYOND);
        found("lay behind the last place", PLAIN, x -> x.lay(3, 2, 1), BEYOND);
        found("lay at a place that was there", PLAIN.then(x -> x.row(3, 1)), x -> x.lay(3, 1, 1), BEYOND);
        found("lay below the first place", PLAIN, x -> x.lay(3, -1, 1), BEYOND);
        found("lay at MIN", PLAIN, x -> x.lay(3, MIN, 1), BEYOND);
        found("lay at MAX", PLAIN, x -> x.lay(3, MAX, 1), BEYOND);
        found("lay in a row of none", PLAIN, x -> x.lay(4, 0, 1), BEYOND);
        found("lay in no row", PLAIN, x -> x.lay(0, 0, 1), NOTHING);
        found("lay: NOTHING ahead of BEYOND", PLAIN, x -> x.lay(5, -1, 1), NOTHING);
    }

    private static void promise4() {
        asks("at the first place", PLAIN, x -> x.at(3, 0), 1, 7);
        asks("at the last place", PLAIN, x -> x.at(3, 1), 1, -7);
        asks("at the least", PLAIN.then(x -> x.lay(3, 0, MIN)), x -> x.at(3, 0), 1, MIN);
        asks("at place 39", NEW.then(x -> x.row(5, 40)).then(x -> x.lay(5, 39, 3)), x -> x.at(5, 39), 1, 3);
        found("at place 40", NEW.then(x -> x.row(5, 40)), x -> x.at(5, 40), BEYOND);
        found("at behind the last place", PLAIN, x -> x.at(3, 2), BEYOND);
        found("at below the first place", PLAIN, x -> x.at(3, -1), BEYOND);
        found("at MIN", PLAIN, x -> x.at(3, MIN), BEYOND);
        found("at MAX", PLAIN, x -> x.at(3, MAX), BEYOND);
        found("at a place of a row of none", PLAIN, x -> x.at(4, 0), BEYOND);
        found("at a place of no row", PLAIN, x -> x.at(0, 0), NOTHING);
        found("at: NOTHING ahead of BEYOND", PLAIN, x -> x.at(2, -1), NOTHING);
        rowIs("at changes no place", PLAIN.then(x -> x.at(3, 1)).make(), 3, 7, -7);
    }

    private static void promise5() {
        for (int r = 0; r < 6; r++) {
            int row = r;
            Scene all = NEW.then(x -> {
                for (int i = 0; i < 6; i++) {
                    x.row(i, i);
                }
                return 0;
            });
            answers("tear(" + r + ")", all, x -> x.tear(row), 1);
            answers("tear(" + r + "): the others stay", all.then(x -> x.tear(row)), x -> x.count(6), 5);
            found("tear(" + r + ") torn", all.then(x -> x.tear(row)), x -> x.tear(row), NOTHING);
            found("tear(" + r + ") at first", NEW, x -> x.tear(row), NOTHING);
        }
        answers("tear a row of none", PLAIN, x -> x.tear(4), 1);
        answers("tear leaves texts", PLAIN.then(x -> x.tear(3)), x -> x.count(7), 3);
        found("at of a torn row", PLAIN.then(x -> x.tear(3)), x -> x.at(3, 0), NOTHING);
        rowIs("a torn row made anew", PLAIN.then(x -> x.tear(3)).then(x -> x.row(3, 2)).make(), 3, 0, 0);
    }

    private static void promise6() {
        Scene s = PLAIN.row(0, 1, 2, 3, 4, 5).row(1, 6, 7, 8);
        rowIs("copy all that fits", s.then(x -> x.copy(0, 2, 1, 0, 3)).make(), 1, 3, 4, 5);
        rowIs("copy leaves where it comes from", s.then(x -> x.copy(0, 2, 1, 0, 3)).make(), 0, 1, 2, 3, 4, 5);
        rowIs("copy to the last place", s.then(x -> x.copy(0, 0, 1, 2, 1)).make(), 1, 6, 7, 1);
        answers("copy all that fits", s, x -> x.copy(0, 2, 1, 0, 3), 1);
        found("copy one too many from", s, x -> x.copy(0, 3, 1, 0, 3), BEYOND);
        found("copy one too many to", s, x -> x.copy(0, 2, 1, 1, 3), BEYOND);
        found("copy more than there are", s, x -> x.copy(1, 0, 0, 0, 4), BEYOND);
        found("copy more than can come", s, x -> x.copy(0, 0, 1, 0, 4), BEYOND);
        tellsAlone("copy none", s, x -> x.copy(0, 0, 1, 0, 0), 1);
        tellsAlone("copy none from the end to the end", s, x -> x.copy(0, 5, 1, 3, 0), 1);
        tellsAlone("copy none of none", s, x -> x.copy(4, 0, 4, 0, 0), 1);
        found("copy none from behind the end", s, x -> x.copy(0, 6, 1, 0, 0), BEYOND);
        found("copy none to behind the end", s, x -> x.copy(0, 0, 1, 4, 0), BEYOND);
        found("copy one of none", s, x -> x.copy(4, 0, 0, 0, 1), BEYOND);
        found("copy one to none", s, x -> x.copy(0, 0, 4, 0, 1), BEYOND);
        found("copy from -1", s, x -> x.copy(0, -1, 1, 0, 1), BEYOND);
        found("copy to -1", s, x -> x.copy(0, 0, 1, -1, 1), BEYOND);
        found("copy none from -1", s, x -> x.copy(0, -1, 1, 0, 0), BEYOND);
        found("copy none to -1", s, x -> x.copy(0, 0, 1, -1, 0), BEYOND);
        found("copy MAX from 1", s, x -> x.copy(0, 1, 1, 0, MAX), BEYOND);
        found("copy MAX from MAX", s, x -> x.copy(0, MAX, 1, 0, MAX), BEYOND);
        found("copy 2 from MAX", s, x -> x.copy(0, MAX, 1, 0, 2), BEYOND);
        found("copy 2 to MAX", s, x -> x.copy(0, 0, 1, MAX, 2), BEYOND);
        found("copy MAX from MIN", s, x -> x.copy(0, MIN, 1, 0, MAX), BEYOND);
        found("copy 1 to MIN", s, x -> x.copy(0, 0, 1, MIN, 1), BEYOND);
        found("copy -1", s, x -> x.copy(0, 1, 1, 1, -1), SIZE);
        found("copy MIN", s, x -> x.copy(0, 0, 1, 0, MIN), SIZE);
        found("copy: SIZE ahead of NOTHING", s, x -> x.copy(2, 0, 5, 0, -1), SIZE);
        found("copy: SIZE ahead of BEYOND", s, x -> x.copy(0, 9, 1, 9, -1), SIZE);
        found("copy from no row", s, x -> x.copy(2, 0, 1, 0, 1), NOTHING);
        found("copy to no row", s, x -> x.copy(0, 0, 2, 0, 1), NOTHING);
        found("copy none from no row", s, x -> x.copy(2, 0, 1, 0, 0), NOTHING);
        found("copy: NOTHING ahead of BEYOND, from", s, x -> x.copy(2, 9, 1, 9, 1), NOTHING);
        found("copy: NOTHING ahead of BEYOND, to", s, x -> x.copy(0, 9, 2, 9, 1), NOTHING);
    }

    private static void copyWithinItself() {
        Scene s = PLAIN.row(0, 1, 2, 3, 4, 5);
        rowIs("copy forth, as if taken ahead", s.then(x -> x.copy(0, 0, 0, 1, 4)).make(), 0, 1, 1, 2, 3, 4);
        rowIs("copy back, as if taken ahead", s.then(x -> x.copy(0, 1, 0, 0, 4)).make(), 0, 2, 3, 4, 5, 5);
        tellsAlone("copy all to itself", s, x -> x.copy(0, 0, 0, 0, 5), 1);
        found("copy forth one too many", s, x -> x.copy(0, 0, 0, 1, 5), BEYOND);
        found("copy itself when missing", s, x -> x.copy(1, 0, 1, 0, 0), NOTHING);
        int[] forty = new int[40];
        for (int i = 0; i < 40; i++) {
            forty[i] = i * i - 300;
        }
        Scene full = NEW.row(0, forty).row(5, new int[40]);
        rowIs("copy forty", full.then(x -> x.copy(0, 0, 5, 0, 40)).make(), 5, forty);
        found("copy forty-one", full, x -> x.copy(0, 0, 5, 0, 41), BEYOND);
    }

    private static void meanIs(int want, int... ints) {
        asks("mean of " + java.util.Arrays.toString(ints), PLAIN.row(0, ints), x -> x.mean(0), 1, want);
    }

    private static int[] forty(int v) {
        int[] all = new int[40];
        java.util.Arrays.fill(all, v);
        return all;
    }

    private static void promise7() {
        meanIs(0, 0);
        meanIs(-4, -4);
        meanIs(0, 0, 1);
        meanIs(1, 1, 1);
        meanIs(1, 1, 2);
        meanIs(0, 0, -1);
        meanIs(-1, -1, -2);
        meanIs(0, 1, 1, 0);
        meanIs(0, -1, -1, 0);
        meanIs(-1, -1, -1, -1);
        meanIs(MAX, MAX);
        meanIs(MIN, MIN);
        meanIs(0, MIN, MAX);
        meanIs(MAX, MAX, MAX);
        meanIs(MIN, MIN, MIN);
        meanIs(MAX, forty(MAX));
        meanIs(MIN, forty(MIN));
        found("mean of none", PLAIN, x -> x.mean(4), NOUGHT);
        found("mean of no row", PLAIN, x -> x.mean(0), NOTHING);
        found("mean of a torn row", PLAIN.then(x -> x.tear(3)), x -> x.mean(3), NOTHING);
        asks("mean of what is within", PLAIN.row(0, 9, 9).then(x -> x.row(0, 1)), x -> x.mean(0), 1, 0);
    }

    // ---- texts

    private static void promise8() {
        for (int n : new int[] {0, 1, 79, 80}) {
            for (int t = 0; t < 4; t++) {
                int text = t;
                answers("text(" + t + ", " + n + ")", PLAIN, x -> x.text(text, n), n);
                textIsBlank(PLAIN.then(x -> x.text(text, n)).make(), t, n);
            }
        }
        refused("text(0, 81)", PLAIN, x -> x.text(0, 81), BAD);
        refused("text(2, 81)", PLAIN, x -> x.text(2, 81), BAD);
        refused("text(0, MAX)", PLAIN, x -> x.text(0, MAX), BAD);
        found("text(0, -1)", PLAIN, x -> x.text(0, -1), SIZE);
        found("text(2, -1)", PLAIN, x -> x.text(2, -1), SIZE);
        found("text(0, MIN)", PLAIN, x -> x.text(0, MIN), SIZE);
        refused("text(-1, -1)", PLAIN, x -> x.text(-1, -1), BAD);
        answers("text leaves the pass", PLAIN.then(x -> x.text(0, 0)), x -> x.count(0), 3);
        answers("text leaves rows", PLAIN.then(x -> x.text(2, 0)), x -> x.count(6), 2);
    }

    private static void textIsBlank(SnowTracks x, int t, int n) {
        for (int i = 0; i < n; i++) {
            due("text " + t + " of " + n + ": byte " + i, x.put(t, i, 1), 1032);
        }
        due("text " + t + " of " + n + ": its end", x.put(t, n, 1), FINDING);
        due("text " + t + " of " + n + ": its end is BEYOND", x.finding(), BEYOND);
    }

    private static void byteIs(int v, int want) {
        answers("a byte of " + v, PLAIN.then(x -> x.put(3, 1, v)), x -> x.put(3, 1, 0), 1000 + want);
    }

    private static void promise9() {
        answers("put at the first place", PLAIN, x -> x.put(3, 0, 0), 1000 + 'x');
        answers("put at the last place", PLAIN, x -> x.put(3, 1, 0), 1000 + '>');
        byteIs(0, 0);
        byteIs(126, 126);
        byteIs(127, 127);
        byteIs(128, -128);
        byteIs(129, -127);
        byteIs(255, -1);
        byteIs(256, 0);
        byteIs(257, 1);
        byteIs(-1, -1);
        byteIs(-127, -127);
        byteIs(-128, -128);
        byteIs(-129, 127);
        byteIs(-256, 0);
        byteIs(MAX, -1);
        byteIs(MIN, 0);
        asks("put tells by its answer alone", PLAIN, x -> x.put(3, 0, 5), 1000 + 'x', 7);
        found("put behind the last place", PLAIN, x -> x.put(3, 2, 1), BEYOND);
        found("put below the first place", PLAIN, x -> x.put(3, -1, 1), BEYOND);
        found("put at MIN", PLAIN, x -> x.put(3, MIN, 1), BEYOND);
        found("put at MAX", PLAIN, x -> x.put(3, MAX, 1), BEYOND);
        found("put at a place that was there", PLAIN.then(x -> x.text(3, 1)), x -> x.put(3, 1, 1), BEYOND);
        found("put in a text of none", PLAIN.then(x -> x.text(3, 0)), x -> x.put(3, 0, 1), BEYOND);
        found("put in no text", PLAIN, x -> x.put(2, 0, 1), NOTHING);
        found("put: NOTHING ahead of BEYOND", PLAIN, x -> x.put(2, -1, 1), NOTHING);
        answers("put at byte 79", NEW.then(x -> x.text(3, 80)), x -> x.put(3, 79, 1), 1032);
        found("put at byte 80", NEW.then(x -> x.text(3, 80)), x -> x.put(3, 80, 1), BEYOND);
    }

    private static void promise10() {
        tellsAlone("a text without a fault", PLAIN, x -> x.fault(0), NONE);
        tellsAlone("a fault at the first place", PLAIN, x -> x.fault(3), 0);
        tellsAlone("a fault at the last place", PLAIN.then(x -> write(x, 3, "f0>")), x -> x.fault(3), 2);
        tellsAlone("a fault behind the last place", PLAIN.then(x -> write(x, 3, "f0")), x -> x.fault(3), 2);
        tellsAlone("a text of none", PLAIN.then(x -> x.text(3, 0)), x -> x.fault(3), NONE);
        tellsAlone("a text of eighty blanks", PLAIN.then(x -> x.text(3, 80)), x -> x.fault(3), NONE);
        tellsAlone("what stood behind the end is gone", PLAIN.then(x -> x.text(3, 1)), x -> x.fault(3), NONE);
        found("a fault of no text", PLAIN, x -> x.fault(2), NOTHING);
    }

    private static void promise11() {
        found("pass by no text", PLAIN, x -> x.pass(2), NOTHING);
        refused("pass by a fault", PLAIN, x -> x.pass(3), STATE);
        refused("pass by a fault of its end", PLAIN.then(x -> write(x, 3, "f00f00 0>1 0")), x -> x.pass(3), STATE);
        refused("pass by a fault behind crossings", PLAIN.then(x -> write(x, 3, "w99v990>1 f00")), x -> x.pass(3), STATE);
        found("pass: STATE is behind NOTHING", NEW, x -> x.pass(0), NOTHING);
        answers("pass by a text of none", PLAIN.then(x -> x.text(3, 0)), x -> x.pass(3), 0);
        answers("pass by blanks", PLAIN.then(x -> x.text(3, 80)), x -> x.pass(3), 0);
        answers("pass of one", PLAIN.then(x -> write(x, 3, "v99")), x -> x.pass(3), 1);
        answers("pass of seven", PLAIN.then(x -> write(x, 3, feet(7))), x -> x.pass(3), 7);
        asks("pass tells by its answer alone", PLAIN, x -> x.pass(0), 3, 7);
        for (int t = 0; t < 4; t++) {
            int text = t;
            answers("pass by text " + t, NEW.then(x -> write(x, text, "f00h00")), x -> x.pass(text), 2);
        }
    }

    private static void passesAnew() {
        Scene s = PLAIN.then(x -> x.wind(1)).then(x -> x.keep(1)).then(x -> write(x, 3, "v29c72 1>0"));
        Scene anew = s.then(x -> x.pass(3));
        answers("pass anew: tracks", anew, x -> x.count(0), 2);
        answers("pass anew: crossings", anew, x -> x.count(1), 1);
        answers("pass anew: who crosses", anew, x -> x.crossing(0), 10);
        asks("pass anew: kind", anew, x -> x.track(0, 0), 1, 5);
        asks("pass anew: size", anew, x -> x.track(0, 1), 1, 2);
        asks("pass anew: fill", anew, x -> x.track(0, 2), 1, 9);
        answers("pass anew: wind stays", anew, x -> x.wind(1), 1);
        answers("pass anew: no wind stays, too", s.then(x -> x.wind(0)).then(x -> x.pass(3)), x -> x.wind(0), 0);
        answers("pass anew: kept passes go", anew, x -> x.count(5), 0);
        for (int k = 0; k < 3; k++) {
            int place = k;
            found("pass anew: on(" + k + ")", anew, x -> x.on(place), NOTHING);
        }
        answers("pass anew by the same text: kept passes go", PLAIN.then(x -> x.pass(0)), x -> x.count(5), 0);
        answers("pass of none: kept passes go", PLAIN.then(x -> x.text(3, 0)).then(x -> x.pass(3)), x -> x.count(5), 0);
        answers("pass of none: crossings go", PLAIN.then(x -> x.text(3, 0)).then(x -> x.pass(3)), x -> x.count(1), 0);
        answers("pass refused: kept passes stay", s.then(x -> x.text(3, 1)).then(x -> x.put(3, 0, 1))
            .then(x -> x.pass(3)), x -> x.count(5), 3);
        answers("pass anew: rows stay", anew, x -> x.count(6), 2);
        answers("pass anew: texts stay", anew, x -> x.count(7), 3);
        answers("pass: a text may change then", PLAIN.then(x -> x.text(0, 0)), x -> x.crossing(1), 1);
    }

    // ---- tracks and crossings

    private static void promise12() {
        Scene s = of("f45v9-c00f09 0>12>02>11>20>1");
        int[][] want = {{0, 4, 5, 2, 1}, {5, 9, NONE, 1, 3}, {4, 0, 0, 2, 1}, {0, 0, 9, 0, 0}};
        for (int i = 0; i < 4; i++) {
            for (int what = 0; what <= 4; what++) {
                int track = i;
                int which = what;
                asks("track(" + i + ", " + what + ")", s, x -> x.track(track, which), 1, want[i][what]);
            }
        }
        numbers("track", s, 0, 3, (x, i) -> x.track(i, 0));
        numbers("what of a track", s, 0, 4, (x, what) -> x.track(0, what));
        numbers("track of seven", of(feet(7)), 0, 6, (x, i) -> x.track(i, 1));
        refused("track of none", of(""), x -> x.track(0, 0), BAD);
        asks("a fill that is no longer seen", s.then(x -> x.fill(3, 10)), x -> x.track(3, 2), 1, NONE);
        Scene sixteen = of("f00f00" + SIXTEEN);
        asks("over in sixteen", sixteen, x -> x.track(0, 3), 1, 16);
        asks("beneath in none", sixteen, x -> x.track(0, 4), 1, 0);
        asks("beneath in sixteen", sixteen, x -> x.track(1, 4), 1, 16);
        asks("over in none", sixteen, x -> x.track(1, 3), 1, 0);
        asks("over in what is left", sixteen.then(x -> x.snow(1)), x -> x.track(0, 3), 1, 1);
    }

    private static void promise13() {
        Scene s = of("f00h00 0>11>0");
        asks("the first crossing", s, x -> x.crossing(0), 1, 1);
        asks("the last crossing", s, x -> x.crossing(1), 10, 0);
        found("a crossing behind the last one", s, x -> x.crossing(2), BEYOND);
        refused("a crossing below 0", s, x -> x.crossing(-1), BAD);
        refused("crossing MIN", s, x -> x.crossing(MIN), BAD);
        found("crossing MAX", s, x -> x.crossing(MAX), BEYOND);
        found("crossing 0 of none", of("f00h00"), x -> x.crossing(0), BEYOND);
        found("crossing 0 without tracks", of(""), x -> x.crossing(0), BEYOND);
        found("a crossing that is snowed over", s.then(x -> x.snow(1)), x -> x.crossing(1), BEYOND);
        Scene full = of(feet(7) + times("0>1", 15) + "6>5");
        answers("crossing 15", full, x -> x.crossing(15), 65);
        found("crossing 16", full, x -> x.crossing(16), BEYOND);
    }

    private static void promise14() {
        Scene s = of("f00h00e00w00c00v00 1>0");
        int[] of = {0, 1, 2, 3, 4, 5};
        boolean[][] is = new boolean[6][6];
        for (int kind : of) {
            is[kind][kind] = true;
        }
        is[4][1] = true;
        is[5][2] = true;
        for (int i = 0; i < 6; i++) {
            int track = i;
            for (int kind = 1; kind <= 5; kind++) {
                int which = kind;
                if (is[i][kind]) {
                    answers("mark(" + i + ", " + kind + ")", s, x -> x.mark(track, which) >= 0 ? 1 : 0, 1);
                } else {
                    found("mark(" + i + ", " + kind + ")", s, x -> x.mark(track, which), UNLIKE);
                }
            }
            numbers("kind of " + i, s, 1, 5, (x, kind) -> x.mark(track, kind));
        }
        refused("mark by KIND 0 of a foot", s, x -> x.mark(0, 0), BAD);
        numbers("mark", s, 0, 5, (x, i) -> x.mark(i, 1));
        refused("mark of none", of(""), x -> x.mark(0, 1), BAD);
        tellsAlone("mark tells by its answer alone", s, x -> x.mark(1, 1), 1);
    }

    private static void marksOfKinds() {
        String heavy = "h00f00";
        answers("a heavy one over none", of(heavy), x -> x.mark(0, 1), 0);
        answers("a heavy one over sixteen", of(heavy + SIXTEEN), x -> x.mark(0, 1), 16);
        answers("a heavy one beneath", of(heavy + "1>0"), x -> x.mark(0, 1), 0);
        answers("a cart over a foot and a hare", of("c00f00e00 0>10>2"), x -> x.mark(0, 1), 1);
        answers("a cart over sixteen hares: each tells", of("c00e00" + SIXTEEN), x -> x.mark(0, 1), 0);
        answers("a hare beneath none", of("e00f00 0>1"), x -> x.mark(0, 2), 0);
        answers("a hare beneath sixteen", of("f00e00" + SIXTEEN), x -> x.mark(1, 2), 16);
        answers("a hare beneath a cart: it tells", of("c00e00" + SIXTEEN), x -> x.mark(1, 2), 0);
        answers("a leveret beneath sixteen", of("f00v00" + SIXTEEN), x -> x.mark(1, 2), 16);
        answers("a leveret over without telling", of("v00h00 0>1"), x -> x.mark(0, 2), 0);
        answers("a twice one that crosses none", of("w00f00f00 1>2"), x -> x.mark(0, 3), 0);
        answers("a twice one that crosses one often", of("w00f00" + times("0>11>0", 8)), x -> x.mark(0, 3), 1);
        answers("a twice one that crosses all", of("w00" + feet(6) + "0>12>00>34>00>56>0"), x -> x.mark(0, 3), 6);
        answers("a cart over no hare", of("c00e00f00 0>21>0"), x -> x.mark(0, 4), 0);
        answers("a cart over one hare often", of("c00e00" + SIXTEEN), x -> x.mark(0, 4), 1);
        answers("a cart over the first", of("e00c00f00 1>01>2"), x -> x.mark(1, 4), 1);
        answers("a cart over six", of("c00e00v00e00v00e00v00 0>10>20>30>40>50>6"), x -> x.mark(0, 4), 6);
        answers("a leveret alone", of("v00f00c00"), x -> x.mark(0, 5), 0);
        answers("a leveret and six", of("v00e00v00e00v00e00v00"), x -> x.mark(0, 5), 6);
        answers("the last leveret and one", of("f00e00v00"), x -> x.mark(2, 5), 1);
    }

    private static void promise15() {
        Scene s = PLAIN;
        numbers("wind", s, 0, 1, (x, v) -> x.wind(v));
        numbers("wind when it blows", s.then(x -> x.wind(1)), 0, 1, (x, v) -> x.wind(v));
        tellsAlone("wind(0) at 0", s, x -> x.wind(0), 0);
        answers("wind(1) at 0", s, x -> x.wind(1), 0);
        tellsAlone("wind(1) at 1", s.then(x -> x.wind(1)), x -> x.wind(1), 1);
        answers("wind(0) at 1", s.then(x -> x.wind(1)), x -> x.wind(0), 1);
        answers("wind(0) is 0", s.then(x -> x.wind(1)).then(x -> x.wind(0)), x -> x.wind(0), 0);
        answers("wind without tracks", NEW.then(x -> x.wind(1)), x -> x.wind(1), 1);
    }

    private static void promise16() {
        Scene s = of("f00f09f0-");
        answers("the fill 0", s, x -> x.fill(0, 5), 0);
        answers("the fill 9", s, x -> x.fill(1, 5), 9);
        answers("the fill that is not seen", s, x -> x.fill(2, 5), 10);
        for (int v = 0; v <= 10; v++) {
            int to = v;
            answers("the fill " + v, s.then(x -> x.fill(0, to)), x -> x.fill(0, 1), v);
            asks("the fill " + v + " told", s.then(x -> x.fill(0, to)), x -> x.track(0, 2), 1, v == 10 ? NONE : v);
        }
        numbers("the fill", s, 0, 10, (x, v) -> x.fill(0, v));
        numbers("the track of a fill", s, 0, 2, (x, i) -> x.fill(i, 0));
        numbers("the track of a fill of seven", of(feet(7)), 0, 6, (x, i) -> x.fill(i, 0));
        refused("the fill of none", of(""), x -> x.fill(0, 0), BAD);
        answers("fills by 1 apart", s.then(x -> x.fill(0, 1)).then(x -> x.fill(1, 2)).then(x -> x.wind(1)),
            x -> x.ahead(1, 0), 0);
        answers("fills by 2 apart", s.then(x -> x.fill(0, 0)).then(x -> x.fill(1, 2)).then(x -> x.wind(1)),
            x -> x.ahead(1, 0), 1);
        answers("a fill of 10 is not greater", s.then(x -> x.fill(1, 10)).then(x -> x.wind(1)), x -> x.ahead(1, 0), 0);
        answers("a fill is not kept unasked", s.then(x -> x.fill(2, 1)).then(x -> x.on(0)), x -> x.fill(2, 0), 5);
    }

    private static void promise17() {
        Scene s = of("f00f00f00 0>1");
        answers("cross", s, x -> x.cross(2, 0), 1);
        answers("cross: who", s.then(x -> x.cross(2, 0)), x -> x.crossing(1), 20);
        answers("cross the same again", s, x -> x.cross(0, 1), 1);
        answers("cross the first", of("f00f00"), x -> x.cross(1, 0), 0);
        numbers("who lies over", s, 0, 2, (x, i) -> x.cross(i, 1));
        numbers("who lies beneath", s, 0, 2, (x, i) -> x.cross(1, i));
        for (int i = 0; i < 3; i++) {
            int track = i;
            refused("cross itself: " + i, s, x -> x.cross(track, track), BAD);
        }
        refused("cross of none", of(""), x -> x.cross(0, 1), BAD);
        refused("cross of one", of("f00"), x -> x.cross(0, 0), BAD);
        refused("cross of one with none", of("f00"), x -> x.cross(0, 1), BAD);
        Scene fifteen = of("f00f00" + times("0>1", 15));
        answers("the sixteenth", fifteen, x -> x.cross(1, 0), 15);
        refused("the seventeenth", fifteen.then(x -> x.cross(1, 0)), x -> x.cross(1, 0), FULL);
        refused("the seventeenth of itself", fifteen.then(x -> x.cross(1, 0)), x -> x.cross(0, 0), BAD);
        answers("when there is room again", fifteen.then(x -> x.cross(1, 0)).then(x -> x.snow(15)), x -> x.cross(0, 1), 15);
        answers("seven tracks", of(feet(7)), x -> x.cross(6, 5), 0);
    }

    private static void promise18() {
        Scene s = of("f00f00f00 0>11>22>0");
        answers("snow from 0 on", s, x -> x.snow(0), 3);
        answers("snow from the last on", s, x -> x.snow(2), 1);
        tellsAlone("snow behind the last one", s, x -> x.snow(3), 0);
        refused("snow from a number that is none", s, x -> x.snow(4), BAD);
        refused("snow(-1)", s, x -> x.snow(-1), BAD);
        refused("snow(MIN)", s, x -> x.snow(MIN), BAD);
        refused("snow(MAX)", s, x -> x.snow(MAX), BAD);
        answers("snow leaves those ahead", s.then(x -> x.snow(2)), x -> x.crossing(1), 12);
        answers("snow: how many are left", s.then(x -> x.snow(2)), x -> x.count(1), 2);
        found("snow: no more than these", s.then(x -> x.snow(2)), x -> x.crossing(2), BEYOND);
        refused("snow again from where none is", s.then(x -> x.snow(1)), x -> x.snow(2), BAD);
        tellsAlone("snow of none", of("f00f00"), x -> x.snow(0), 0);
        tellsAlone("snow without tracks", of(""), x -> x.snow(0), 0);
        refused("snow(1) of none", of("f00f00"), x -> x.snow(1), BAD);
        Scene full = of("f00f00" + SIXTEEN);
        answers("snow of sixteen", full, x -> x.snow(0), 16);
        tellsAlone("snow(16) of sixteen", full, x -> x.snow(16), 0);
        refused("snow(17) of sixteen", full, x -> x.snow(17), BAD);
        answers("snow leaves kept ones", s.then(x -> x.snow(0)), x -> x.on(0), 3);
    }

    // ---- kept passes

    private static void promise19() {
        Scene s = of("f03h1- 1>00>1");
        numbers("keep", s, 0, 2, (x, k) -> x.keep(k));
        ends("keep", s, 0, 2, (x, k) -> x.keep(k), 2);
        answers("keep where none is", s.then(x -> x.keep(1)), x -> x.count(5), 3);
        answers("keep where one is", s.then(x -> x.keep(0)), x -> x.count(5), 2);
        refused("keep without tracks", of(""), x -> x.keep(0), STATE);
        refused("keep in a new object", NEW, x -> x.keep(2), STATE);
        refused("keep(3) without tracks", of(""), x -> x.keep(3), BAD);
        answers("keep of one track", of("f00"), x -> x.keep(1), 0);
        answers("keep of one track is one", of("f00").then(x -> x.keep(1)), x -> x.count(5), 3);
        answers("keep of sixteen crossings", of(feet(7) + SIXTEEN), x -> x.keep(1), 16);
        asks("keep tells by its answer alone", s, x -> x.keep(1), 2, 7);
        Scene over = s.then(x -> x.snow(1)).then(x -> x.keep(0)).then(x -> x.snow(0));
        answers("keep in the stead of another one", over, x -> x.on(0), 1);
        answers("keep leaves the others", over, x -> x.on(2), 2);
    }

    private static void promise20() {
        Scene s = of("f03h1- 1>00>1").then(x -> x.keep(1));
        numbers("on", s, 0, 2, (x, k) -> x.on(k));
        ends("on", s, 0, 2, (x, k) -> x.on(k), 2);
        tellsAlone("on where nothing changed", s, x -> x.on(1), 2);
        found("on where none is kept", of("f00"), x -> x.on(1), NOTHING);
        found("on in a new object", NEW, x -> x.on(0), NOTHING);
        found("on without tracks", of(""), x -> x.on(2), NOTHING);
        Scene changed = s.then(x -> x.fill(0, 10)).then(x -> x.fill(1, 0)).then(x -> x.wind(1)).then(x -> x.snow(0))
            .then(x -> x.cross(0, 1));
        Scene back = changed.then(x -> x.on(1));
        answers("on: how many crossings", changed, x -> x.on(1), 2);
        answers("on: the fill", back, x -> x.fill(0, 0), 3);
        answers("on: the fill that is not seen", back, x -> x.fill(1, 0), 10);
        answers("on: the wind", back, x -> x.wind(0), 0);
        answers("on: the first crossing", back, x -> x.crossing(0), 10);
        answers("on: the last crossing", back, x -> x.crossing(1), 1);
        answers("on: the wind that blew", back.then(x -> x.on(0)), x -> x.wind(0), 1);
        answers("on: what is kept stays", back.then(x -> x.snow(0)), x -> x.on(1), 2);
        answers("on: all are still kept", back, x -> x.count(5), 3);
        Scene full = of(feet(7) + SIXTEEN).then(x -> x.keep(1)).then(x -> x.snow(0));
        answers("on: sixteen crossings", full, x -> x.on(1), 16);
        refused("on: sixteen are all", full.then(x -> x.on(1)), x -> x.cross(0, 1), FULL);
        Scene none = of(feet(7)).then(x -> x.keep(1)).then(x -> x.cross(0, 1));
        answers("on: no crossings", none, x -> x.on(1), 0);
        found("on: no crossing is left", none.then(x -> x.on(1)), x -> x.crossing(0), BEYOND);
    }
}

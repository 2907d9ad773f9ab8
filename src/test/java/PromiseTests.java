/** For each promise: ordinary inputs, the edges that the document names, wrong inputs. */
public final class PromiseTests {
    private static final int BAD = -1, FULL = -2, FINDING = -3, STATE = -4, NONE = -9;
    private static final int NOTHING = 1, BEYOND = 2, UNLIKE = 3, NOUGHT = 4, SIZE = 5;
    private static final int MIN = Integer.MIN_VALUE, MAX = Integer.MAX_VALUE;

    private static int passed = 0;
    private static int failed = 0;

    private static void due(String call, long got, long want) {
        if (got == want) {
            passed++;
        } else {
            failed++;
            System.out.println(call + " answered " + got + ", due is " + want);
        }
    }

    /** A call that was refused by a finding: that it was the one that is due. */
    private static void found(String call, SnowTracks x, long got, int finding) {
        due(call, got, FINDING);
        due(call + ": finding()", x.finding(), finding);
    }

    private static void write(SnowTracks x, int t, String signs) {
        x.text(t, signs.length());
        for (int i = 0; i < signs.length(); i++) {
            x.put(t, i, signs.charAt(i));
        }
    }

    private static SnowTracks of(String signs) {
        SnowTracks x = new SnowTracks();
        write(x, 0, signs);
        x.pass(0);
        return x;
    }

    private static void lay(SnowTracks x, int r, int... ints) {
        x.row(r, ints.length);
        for (int i = 0; i < ints.length; i++) {
            x.lay(r, i, ints[i]);
        }
    }

    private static void rowIs(String call, SnowTracks x, int r, int... ints) {
        for (int i = 0; i < ints.length; i++) {
            due(call + ": at " + i, x.at(r, i), 1);
            due(call + ": place " + i, x.asked(), ints[i]);
        }
        due(call + ": behind its end", x.at(r, ints.length), FINDING);
    }

    public static void main(String[] args) {
        newObject();
        rowsAreMade();
        rowsAreLaidAndTorn();
        rowsAreCopied();
        means();
        texts();
        faults();
        passes();
        tracks();
        crossings();
        kindsTell();
        marks();
        windAndFills();
        crossAndSnow();
        keptPasses();
        aheads();
        orders();
        firstAndNth();
        sures();
        oddses();
        places();
        judged();
        met();
        chains();
        rings();
        wrongs();
        twices();
        looks();
        hidden();
        people();
        stories();
        held();
        believed();
        walked();
        told();
        counts();
        findings();
        digests();
        emptyPass();
        System.out.println(passed + " passed, " + failed + " failed");
        if (failed != 0) {
            System.exit(1);
        }
    }

    // Promise 1
    private static void newObject() {
        SnowTracks x = new SnowTracks();
        for (int what = 0; what <= 7; what++) {
            due("new: count(" + what + ")", x.count(what), 0);
        }
        due("new: asked()", x.asked(), 0);
        due("new: upper()", x.upper(), 0);
        due("new: lower()", x.lower(), 1);
        due("new: finding()", x.finding(), 0);
        due("new: wind(1)", x.wind(1), 0);
        found("new: at(0, 0)", x, x.at(0, 0), NOTHING);
        found("new: fault(0)", x, x.fault(0), NOTHING);
        found("new: on(0)", x, x.on(0), NOTHING);
    }

    // Promise 2
    private static void rowsAreMade() {
        SnowTracks x = new SnowTracks();
        due("row(0, 40)", x.row(0, 40), 40);
        due("row(5, 0)", x.row(5, 0), 0);
        due("row(0, 41)", x.row(0, 41), BAD);
        due("row(6, 1)", x.row(6, 1), BAD);
        due("row(-1, 1)", x.row(-1, 1), BAD);
        due("row(-1, -1)", x.row(-1, -1), BAD);
        due("row(MAX, MAX)", x.row(MAX, MAX), BAD);
        due("finding() behind BAD", x.finding(), 0);
        found("row(0, -1)", x, x.row(0, -1), SIZE);
        found("row(1, MIN)", x, x.row(1, MIN), SIZE);
        due("count(6)", x.count(6), 2);
        x.lay(0, 39, 7);
        due("row(0, 40) anew", x.row(0, 40), 40);
        x.at(0, 39);
        due("row() lays 0", x.asked(), 0);
        x.lay(0, 2, 9);
        x.row(0, 1);
        x.row(0, 3);
        x.at(0, 2);
        due("a longer row() lays 0", x.asked(), 0);
    }

    // Promises 3, 4, 5
    private static void rowsAreLaidAndTorn() {
        SnowTracks x = new SnowTracks();
        x.row(2, 3);
        due("lay(2, 1, MIN)", x.lay(2, 1, MIN), 1);
        due("lay: what it was", x.asked(), 0);
        due("lay(2, 1, 5)", x.lay(2, 1, 5), 1);
        due("lay: what it was", x.asked(), MIN);
        due("at(2, 1)", x.at(2, 1), 1);
        due("at: asked()", x.asked(), 5);
        due("lay(6, 0, 1)", x.lay(6, 0, 1), BAD);
        due("lay(-1, 0, 1)", x.lay(-1, 0, 1), BAD);
        due("at(6, 0)", x.at(6, 0), BAD);
        due("at(-1, 0)", x.at(-1, 0), BAD);
        found("lay(1, 9, 1)", x, x.lay(1, 9, 1), NOTHING);
        found("at(1, 9)", x, x.at(1, 9), NOTHING);
        found("lay(2, 3, 1)", x, x.lay(2, 3, 1), BEYOND);
        found("lay(2, -1, 1)", x, x.lay(2, -1, 1), BEYOND);
        found("at(2, 3)", x, x.at(2, 3), BEYOND);
        found("at(2, MIN)", x, x.at(2, MIN), BEYOND);
        due("asked() behind refusals", x.asked(), 5);
        due("tear(6)", x.tear(6), BAD);
        due("tear(-1)", x.tear(-1), BAD);
        found("tear(0)", x, x.tear(0), NOTHING);
        due("tear(2)", x.tear(2), 1);
        found("tear(2) again", x, x.tear(2), NOTHING);
        found("at(2, 1) torn", x, x.at(2, 1), NOTHING);
        due("count(6) torn", x.count(6), 0);
    }

    // Promise 6
    private static void rowsAreCopied() {
        SnowTracks x = new SnowTracks();
        lay(x, 0, 1, 2, 3, 4, 5);
        lay(x, 1, 0, 0, 0);
        due("copy(0, 1, 1, 0, 3)", x.copy(0, 1, 1, 0, 3), 1);
        rowIs("copy", x, 1, 2, 3, 4);
        due("copy(0, 0, 0, 1, 4)", x.copy(0, 0, 0, 1, 4), 1);
        rowIs("copy forth in itself", x, 0, 1, 1, 2, 3, 4);
        due("copy(0, 2, 0, 0, 3)", x.copy(0, 2, 0, 0, 3), 1);
        rowIs("copy back in itself", x, 0, 2, 3, 4, 3, 4);
        due("copy of none at the ends", x.copy(0, 5, 1, 3, 0), 1);
        due("copy(6, ..)", x.copy(6, 0, 1, 0, 1), BAD);
        due("copy(.., -1, ..)", x.copy(0, 0, -1, 0, 1), BAD);
        due("copy(.., 6, .., -1)", x.copy(0, 0, 6, 0, -1), BAD);
        found("copy(2, .., -1)", x, x.copy(2, 0, 1, 0, -1), SIZE);
        found("copy(2, ..)", x, x.copy(2, 0, 1, 9, 9), NOTHING);
        found("copy(.., 2, ..)", x, x.copy(0, 9, 2, 0, 1), NOTHING);
        found("copy too many from", x, x.copy(1, 1, 0, 0, 3), BEYOND);
        found("copy too many to", x, x.copy(0, 0, 1, 1, 3), BEYOND);
        found("copy none from beyond", x, x.copy(0, 6, 1, 0, 0), BEYOND);
        found("copy from -1", x, x.copy(0, -1, 1, 0, 1), BEYOND);
        found("copy to -1", x, x.copy(0, 0, 1, -1, 1), BEYOND);
        found("copy from MAX", x, x.copy(0, MAX, 1, 0, MAX), BEYOND);
        found("copy MIN to MIN", x, x.copy(0, MIN, 1, MIN, MAX), BEYOND);
        rowIs("copy refused", x, 1, 2, 3, 4);
    }

    // Promise 7
    private static void means() {
        SnowTracks x = new SnowTracks();
        lay(x, 0, 1, 2, 5);
        due("mean(0)", x.mean(0), 1);
        due("mean: asked()", x.asked(), 2);
        lay(x, 0, -1, -2, -5);
        x.mean(0);
        due("mean is cut towards 0", x.asked(), -2);
        lay(x, 0, MAX, MAX, MAX);
        x.mean(0);
        due("mean of great ones", x.asked(), MAX);
        lay(x, 0, MIN, MIN);
        x.mean(0);
        due("mean of least ones", x.asked(), MIN);
        x.row(3, 1);
        due("mean of one", x.mean(3), 1);
        due("mean of one: asked()", x.asked(), 0);
        x.row(3, 40);
        x.lay(3, 39, 81);
        x.mean(3);
        due("mean of forty: asked()", x.asked(), 2);
        x.mean(0);
        x.row(1, 0);
        found("mean of none", x, x.mean(1), NOUGHT);
        found("mean(2)", x, x.mean(2), NOTHING);
        due("mean(6)", x.mean(6), BAD);
        due("mean(-1)", x.mean(-1), BAD);
        due("mean: asked() behind refusals", x.asked(), MIN);
    }

    // Promises 8, 9
    private static void texts() {
        SnowTracks x = new SnowTracks();
        due("text(3, 80)", x.text(3, 80), 80);
        due("text(0, 0)", x.text(0, 0), 0);
        due("text(0, 81)", x.text(0, 81), BAD);
        due("text(4, 1)", x.text(4, 1), BAD);
        due("text(-1, -1)", x.text(-1, -1), BAD);
        found("text(1, -1)", x, x.text(1, -1), SIZE);
        due("count(7)", x.count(7), 2);
        due("put(3, 79, 300)", x.put(3, 79, 300), 1032);
        due("put(3, 79, 255)", x.put(3, 79, 255), 1044);
        due("put(3, 79, -129)", x.put(3, 79, -129), 999);
        due("put(3, 79, 128)", x.put(3, 79, 128), 1127);
        due("put(3, 79, 0)", x.put(3, 79, 0), 872);
        due("put(4, 0, 1)", x.put(4, 0, 1), BAD);
        due("put(-1, 0, 1)", x.put(-1, 0, 1), BAD);
        found("put(2, 0, 1)", x, x.put(2, 0, 1), NOTHING);
        found("put(3, 80, 1)", x, x.put(3, 80, 1), BEYOND);
        found("put(3, -1, 1)", x, x.put(3, -1, 1), BEYOND);
        found("put(0, 0, 1)", x, x.put(0, 0, 1), BEYOND);
        x.text(3, 80);
        due("text() lays blanks anew", x.put(3, 79, 1), 1032);
    }

    private static void faultIs(String signs, int want) {
        SnowTracks x = new SnowTracks();
        write(x, 2, signs);
        due("fault of \"" + signs + "\"", x.fault(2), want);
        int tracks = 0;
        for (int i = 0; i < signs.length(); i++) {
            tracks += Character.isLetter(signs.charAt(i)) ? 1 : 0;
        }
        due("pass of \"" + signs + "\"", x.pass(2), want == NONE ? tracks : STATE);
    }

    // Promise 10
    private static void faults() {
        faultIs("", NONE);
        faultIs("   ", NONE);
        faultIs("f00", NONE);
        faultIs("  f09   h9-  e55 w11c22v33 0>1   5>4 ", NONE);
        faultIs("f00f000>11>0", NONE);
        faultIs("x00", 0);
        faultIs(" F00", 1);
        faultIs("f", 1);
        faultIs("f0", 2);
        faultIs("f 00", 1);
        faultIs("f-0", 1);
        faultIs("f0 0", 2);
        faultIs("f0x", 2);
        faultIs("f00 f00 2>0", 8);
        faultIs("f00 f00 0>2", 10);
        faultIs("f00 f00 1>1", 10);
        faultIs("f00 f00 1<0", 9);
        faultIs("f00 f00 1 >0", 9);
        faultIs("f00 f00 1> 0", 10);
        faultIs("f00 f00 1>", 10);
        faultIs("f00 f00 1", 9);
        faultIs("f00 f00 1>0 f00", 12);
        faultIs("f00 f00 -", 8);
        faultIs("0>1", 0);
        faultIs("f00 0>1", 6);
        faultIs("f00f00f00f00f00f00f006>0", NONE);
        faultIs("f00f00f00f00f00f00f00 f00", 22);
        faultIs("f00f00f00f00f00f00f007>0", 21);
        StringBuilder sixteen = new StringBuilder("f00f00");
        for (int k = 0; k < 16; k++) {
            sixteen.append(" 0>1");
        }
        faultIs(sixteen.toString(), NONE);
        faultIs(sixteen + "  1>0", sixteen.length() + 2);
        faultIs(sixteen + " 1", sixteen.length() + 1);
        faultIs(sixteen + " f00", sixteen.length() + 1);
        SnowTracks x = new SnowTracks();
        due("fault(4)", x.fault(4), BAD);
        due("fault(-1)", x.fault(-1), BAD);
        found("fault(1)", x, x.fault(1), NOTHING);
        x.text(1, 1);
        x.put(1, 0, 102 + 128);
        due("fault of a byte below 0", x.fault(1), 0);
    }

    // Promise 11
    private static void passes() {
        SnowTracks x = of("f00 h11 1>0");
        x.keep(1);
        x.keep(0);
        x.keep(2);
        x.wind(1);
        due("pass(4)", x.pass(4), BAD);
        due("pass(-1)", x.pass(-1), BAD);
        found("pass(1)", x, x.pass(1), NOTHING);
        write(x, 1, "f00 0>0");
        int findings = x.findings(NOTHING);
        due("pass of a fault", x.pass(1), STATE);
        due("pass of a fault is no finding", x.findings(NOTHING), findings);
        due("pass refused: tracks", x.count(0), 2);
        due("pass refused: crossings", x.count(1), 1);
        due("pass refused: kept", x.count(5), 3);
        write(x, 1, "e12 e34 c56 2>0 2>1");
        due("pass anew", x.pass(1), 3);
        due("pass anew: crossings", x.count(1), 2);
        due("pass anew: kept", x.count(5), 0);
        due("pass anew: wind stays", x.wind(0), 1);
        found("pass anew: on(1)", x, x.on(1), NOTHING);
        found("pass anew: on(0)", x, x.on(0), NOTHING);
        found("pass anew: on(2)", x, x.on(2), NOTHING);
    }

    // Promise 12
    private static void tracks() {
        SnowTracks x = of("f45 v9- c00 0>1 2>0 2>1 1>2 0>1");
        int[][] want = {{0, 4, 5, 2, 1}, {5, 9, -9, 1, 3}, {4, 0, 0, 2, 1}};
        for (int i = 0; i < want.length; i++) {
            for (int what = 0; what < 5; what++) {
                due("track(" + i + ", " + what + ")", x.track(i, what), 1);
                due("track(" + i + ", " + what + "): asked()", x.asked(), want[i][what]);
            }
        }
        due("track(3, 0)", x.track(3, 0), BAD);
        due("track(-1, 0)", x.track(-1, 0), BAD);
        due("track(0, 5)", x.track(0, 5), BAD);
        due("track(0, -1)", x.track(0, -1), BAD);
        due("track: asked() behind BAD", x.asked(), 1);
    }

    // Promise 13
    private static void crossings() {
        SnowTracks x = of("f00 h00 0>1 1>0");
        due("crossing(0)", x.crossing(0), 1);
        due("crossing(0): asked()", x.asked(), 1);
        due("crossing(1)", x.crossing(1), 10);
        due("crossing(1): asked()", x.asked(), 0);
        due("crossing(-1)", x.crossing(-1), BAD);
        found("crossing(2)", x, x.crossing(2), BEYOND);
        found("crossing(16)", x, x.crossing(16), BEYOND);
        found("crossing(MAX)", x, x.crossing(MAX), BEYOND);
    }

    /** Every kind over every kind. */
    private static void kindsTell() {
        String letters = "fhewcv";
        String[] want = {"110010", "000000", "110010", "000000", "001001", "100000"};
        for (int over = 0; over < 6; over++) {
            for (int beneath = 0; beneath < 6; beneath++) {
                SnowTracks x = of(letters.charAt(over) + "00" + letters.charAt(beneath) + "00 0>1");
                x.crossing(0);
                String call = letters.charAt(over) + " over " + letters.charAt(beneath);
                due(call, x.asked(), want[over].charAt(beneath) - '0');
                due(call + ": ahead(1, 0)", x.ahead(1, 0), want[over].charAt(beneath) - '0');
            }
        }
    }

    // Promise 14
    private static void marks() {
        SnowTracks x = of("f00 h00 e00 w00 c00 v00 e00"
            + " 1>0 1>2 1>0 4>2 4>5 4>0 4>2 0>2 3>0 0>3 3>4");
        int[][] want = {
            {-3, -3, -3, -3, -3}, {3, -3, -3, -3, -3}, {-3, 2, -3, -3, -3}, {-3, -3, 2, -3, -3},
            {1, -3, -3, 2, -3}, {-3, 0, -3, -3, 2}, {-3, 0, -3, -3, -3}};
        for (int i = 0; i < want.length; i++) {
            for (int kind = 1; kind <= 5; kind++) {
                String call = "mark(" + i + ", " + kind + ")";
                if (want[i][kind - 1] == FINDING) {
                    found(call, x, x.mark(i, kind), UNLIKE);
                } else {
                    due(call, x.mark(i, kind), want[i][kind - 1]);
                }
            }
        }
        due("mark(0, 0)", x.mark(0, 0), BAD);
        due("mark(0, 6)", x.mark(0, 6), BAD);
        due("mark(7, 1)", x.mark(7, 1), BAD);
        due("mark(-1, 1)", x.mark(-1, 1), BAD);
        x = of("e00 c00 f00 v00 2>0 1>0 1>3 1>2 2>3");
        due("mark: beneath crossing 0", x.mark(0, 2), 1);
        due("mark: a leveret beneath", x.mark(3, 2), 1);
        due("mark: a cart over track 0", x.mark(1, 4), 2);
        due("mark: a cart over a foot", x.mark(1, 1), 1);
        due("mark: the other hares", x.mark(3, 5), 1);
    }

    // Promises 15, 16
    private static void windAndFills() {
        SnowTracks x = of("f03 f01 f02 w09 f0-");
        due("ahead by no wind", x.ahead(0, 1), 0);
        due("wind(1)", x.wind(1), 0);
        due("wind(1) again", x.wind(1), 1);
        due("wind(2)", x.wind(2), BAD);
        due("wind(-1)", x.wind(-1), BAD);
        due("ahead by wind", x.ahead(0, 1), 1);
        due("behind by wind", x.ahead(1, 0), 0);
        due("one is too little", x.ahead(0, 2), 0);
        due("a twice one aside", x.ahead(3, 1), 0);
        due("not seen", x.ahead(4, 1), 0);
        due("fill(4, 9)", x.fill(4, 9), 10);
        due("seen now", x.ahead(4, 0), 1);
        due("fill(4, 10)", x.fill(4, 10), 9);
        due("not seen beneath", x.ahead(0, 4), 0);
        due("fill(3, 0)", x.fill(3, 0), 9);
        due("a twice one aside beneath", x.ahead(0, 3), 0);
        due("fill(5, 0)", x.fill(5, 0), BAD);
        due("fill(-1, 0)", x.fill(-1, 0), BAD);
        due("fill(0, 11)", x.fill(0, 11), BAD);
        due("fill(0, -1)", x.fill(0, -1), BAD);
        due("wind(0)", x.wind(0), 1);
        due("ahead by no wind", x.ahead(0, 1), 0);
    }

    // Promises 17, 18
    private static void crossAndSnow() {
        SnowTracks x = of("f00 f00 f00 0>1");
        due("cross(2, 0)", x.cross(2, 0), 1);
        due("crossing(1)", x.crossing(1), 20);
        due("cross(1, 1)", x.cross(1, 1), BAD);
        due("cross(3, 1)", x.cross(3, 1), BAD);
        due("cross(1, -1)", x.cross(1, -1), BAD);
        for (int k = 2; k < 16; k++) {
            due("cross(0, 2)", x.cross(0, 2), k);
        }
        due("cross(0, 2) full", x.cross(0, 2), FULL);
        due("cross(0, 0) full", x.cross(0, 0), BAD);
        due("snow(17)", x.snow(17), BAD);
        due("snow(-1)", x.snow(-1), BAD);
        due("snow(16)", x.snow(16), 0);
        due("snow(3)", x.snow(3), 13);
        due("count(1)", x.count(1), 3);
        due("snow(4)", x.snow(4), BAD);
        due("cross(1, 2)", x.cross(1, 2), 3);
        due("crossing(3)", x.crossing(3), 12);
        due("snow(0)", x.snow(0), 4);
        due("snow(0) again", x.snow(0), 0);
    }

    // Promises 19, 20
    private static void keptPasses() {
        SnowTracks x = new SnowTracks();
        due("keep(0) without tracks", x.keep(0), STATE);
        due("keep(3)", x.keep(3), BAD);
        due("keep(-1)", x.keep(-1), BAD);
        write(x, 0, "f03 h1- 1>0 0>1");
        x.pass(0);
        due("keep(0)", x.keep(0), 2);
        x.fill(0, 9);
        x.fill(1, 2);
        x.wind(1);
        x.snow(0);
        x.cross(0, 1);
        due("keep(2)", x.keep(2), 1);
        due("count(5)", x.count(5), 2);
        due("on(3)", x.on(3), BAD);
        due("on(-1)", x.on(-1), BAD);
        found("on(1)", x, x.on(1), NOTHING);
        due("on(0)", x.on(0), 2);
        due("on(0): fill", x.fill(0, 0), 3);
        due("on(0): fill not seen", x.fill(1, 0), 10);
        due("on(0): crossing(0)", x.crossing(0), 10);
        due("on(0): wind", x.wind(0), 0);
        due("on(0) again", x.on(0), 2);
        due("on(0) again: fill", x.fill(0, 0), 3);
        due("on(2)", x.on(2), 1);
        due("on(2): wind", x.wind(0), 1);
        due("on(2): fill", x.fill(0, 0), 9);
        x.cross(1, 0);
        due("keep(2) over", x.keep(2), 2);
        due("count(5)", x.count(5), 2);
        x = of("f00");
        due("keep(1) of one track", x.keep(1), 0);
        due("on(1) of one track", x.on(1), 0);
        due("count(5) of one track", x.count(5), 1);
    }

    // Promise 21
    private static void aheads() {
        SnowTracks x = of("f00 f00 f00 1>0 2>1");
        due("ahead(0, 1)", x.ahead(0, 1), 1);
        due("ahead(1, 0)", x.ahead(1, 0), 0);
        due("ahead(0, 2): not at once", x.ahead(0, 2), 0);
        due("ahead(0, 0)", x.ahead(0, 0), BAD);
        due("ahead(0, 3)", x.ahead(0, 3), BAD);
        due("ahead(-1, 0)", x.ahead(-1, 0), BAD);
    }

    private static void fractionIs(String call, SnowTracks x, long upper, long lower) {
        due(call + ": upper()", x.upper(), upper);
        due(call + ": lower()", x.lower(), lower);
    }

    // Promise 22
    private static void orders() {
        SnowTracks x = of("f00f00f00f00f00f00f00");
        due("orders()", x.orders(), 1);
        fractionIs("orders() of seven", x, 5040, 1);
        x.cross(1, 0);
        x.orders();
        fractionIs("orders() of half", x, 2520, 1);
        x.cross(0, 1);
        due("orders() of a ring", x.orders(), 1);
        fractionIs("orders() of a ring", x, 0, 1);
        x = of("f00 f09");
        x.wind(1);
        x.orders();
        fractionIs("orders() by wind", x, 1, 1);
    }

    // Promises 23, 24
    private static void firstAndNth() {
        SnowTracks x = of("f00 f00 f00 0>2");
        x.row(1, 9);
        due("first(1)", x.first(1), 1);
        rowIs("first", x, 1, 1, 2, 0);
        int[][] want = {{1, 2, 0}, {2, 0, 1}, {2, 1, 0}};
        for (int i = 0; i < 3; i++) {
            due("nth(" + i + ", 2)", x.nth(i, 2), 1);
            rowIs("nth " + i, x, 2, want[i]);
        }
        found("nth(3, 2)", x, x.nth(3, 2), NOUGHT);
        found("nth(MAX, 2)", x, x.nth(MAX, 2), NOUGHT);
        rowIs("nth refused", x, 2, 2, 1, 0);
        due("nth(-1, 2)", x.nth(-1, 2), BAD);
        due("nth(0, 6)", x.nth(0, 6), BAD);
        due("nth(9, -1)", x.nth(9, -1), BAD);
        due("first(6)", x.first(6), BAD);
        due("first(-1)", x.first(-1), BAD);
        x.cross(2, 0);
        due("first of a ring", x.first(1), NONE);
        due("first(6) of a ring", x.first(6), BAD);
        rowIs("first of none", x, 1, 1, 2, 0);
        found("nth(0, 2) of a ring", x, x.nth(0, 2), NOUGHT);
        x = of("f00f00f00f00f00f00f00");
        due("nth(5039, 0)", x.nth(5039, 0), 1);
        rowIs("nth(5039, 0)", x, 0, 6, 5, 4, 3, 2, 1, 0);
        found("nth(5040, 0)", x, x.nth(5040, 0), NOUGHT);
    }

    private static final String RING = "f00 f00 f00 0>1 1>0";

    // Promise 25
    private static void sures() {
        SnowTracks x = of("f00 f00 f00 f00 1>0 2>1");
        due("sure(0, 2)", x.sure(0, 2), 1);
        due("sure(2, 0)", x.sure(2, 0), 2);
        due("sure(0, 3)", x.sure(0, 3), 0);
        due("sure(0, 0)", x.sure(0, 0), BAD);
        due("sure(0, 4)", x.sure(0, 4), BAD);
        due("sure(-1, 0)", x.sure(-1, 0), BAD);
        x = of(RING);
        found("sure in a ring", x, x.sure(0, 2), NOUGHT);
        due("sure(2, 2) in a ring", x.sure(2, 2), BAD);
    }

    // Promise 26
    private static void oddses() {
        SnowTracks x = of("f00 f00 f00 f00 1>0 2>1");
        due("odds(0, 3)", x.odds(0, 3), 1);
        fractionIs("odds(0, 3)", x, 3, 4);
        x.odds(1, 3);
        fractionIs("odds(1, 3)", x, 1, 2);
        x.odds(3, 0);
        fractionIs("odds(3, 0)", x, 1, 4);
        x.odds(0, 2);
        fractionIs("odds(0, 2)", x, 1, 1);
        x.odds(2, 0);
        fractionIs("odds(2, 0)", x, 0, 1);
        due("odds(0, 0)", x.odds(0, 0), BAD);
        due("odds(4, 0)", x.odds(4, 0), BAD);
        due("odds(0, -1)", x.odds(0, -1), BAD);
        x.odds(0, 3);
        x.cross(0, 1);
        found("odds in a ring", x, x.odds(0, 3), NOUGHT);
        fractionIs("odds refused", x, 3, 4);
    }

    // Promise 27
    private static void places() {
        SnowTracks x = of("f00 f00 f00 f00 1>0 2>1");
        int[][] want = {{0, 1}, {1, 2}, {2, 3}, {0, 3}};
        for (int i = 0; i < 4; i++) {
            due("place(" + i + ")", x.place(i), want[i][0]);
            due("place(" + i + "): asked()", x.asked(), want[i][1]);
        }
        due("place(4)", x.place(4), BAD);
        due("place(-1)", x.place(-1), BAD);
        x = of(RING);
        found("place in a ring", x, x.place(2), NOUGHT);
    }

    // Promise 28
    private static void judged() {
        SnowTracks x = of("f09 f00 h00 1>0 2>1 0>2 0>1");
        lay(x, 0, 0, 1, 2);
        due("judge of 0 1 2", x.judge(0), 2);
        due("judge of 0 1 2: asked()", x.asked(), 2);
        lay(x, 0, 2, 1, 0);
        due("judge of 2 1 0", x.judge(0), 0);
        due("judge of 2 1 0: asked()", x.asked(), 1);
        x.snow(2);
        x.wind(1);
        lay(x, 0, 2, 0, 1);
        due("judge: what does not tell is not against it", x.judge(0), 2);
        due("judge: none", x.asked(), 0);
        x.fill(0, 0);
        x.fill(1, 9);
        due("judge: wind aside", x.judge(0), 2);
        due("judge(6)", x.judge(6), BAD);
        due("judge(-1)", x.judge(-1), BAD);
        found("judge(1)", x, x.judge(1), NOTHING);
        lay(x, 1, 0, 0);
        found("judge of too few", x, x.judge(1), SIZE);
        lay(x, 1, 0, 1, 2, 3);
        found("judge of too many", x, x.judge(1), SIZE);
        lay(x, 1, 0, 1, 3);
        found("judge of none of them", x, x.judge(1), UNLIKE);
        lay(x, 1, 0, 1, -1);
        found("judge of one below 0", x, x.judge(1), UNLIKE);
        lay(x, 1, 0, 1, MIN);
        found("judge of MIN", x, x.judge(1), UNLIKE);
        lay(x, 1, 0, 1, 0);
        found("judge of one twice", x, x.judge(1), UNLIKE);
    }

    // Promise 29
    private static void met() {
        SnowTracks x = of("f00 f00 f00 f00 1>0 2>1 2>0");
        due("meet(0, 1)", x.meet(0, 1), 1);
        due("meet(2, 1)", x.meet(2, 1), 1);
        due("meet(0, 2)", x.meet(0, 2), 0);
        due("meet(2, 0)", x.meet(2, 0), 0);
        due("meet(0, 3)", x.meet(0, 3), 1);
        due("meet(3, 3)", x.meet(3, 3), BAD);
        due("meet(4, 3)", x.meet(4, 3), BAD);
        due("meet(0, -1)", x.meet(0, -1), BAD);
        x = of(RING);
        found("meet in a ring", x, x.meet(0, 2), NOUGHT);
    }

    // Promise 30
    private static void chains() {
        SnowTracks x = of("f00 f00 f00 f00 f00 3>0 3>1 1>2 4>0");
        int[][] want = {{1, 2}, {2, 2}, {1, 3}, {3, 1}, {2, 1}};
        for (int i = 0; i < 5; i++) {
            due("chain(" + i + ")", x.chain(i), want[i][0]);
            due("chain(" + i + "): asked()", x.asked(), want[i][1]);
        }
        due("chain(5)", x.chain(5), BAD);
        due("chain(-1)", x.chain(-1), BAD);
        x = of(RING);
        found("chain in a ring", x, x.chain(2), NOUGHT);
    }

    // Promise 31
    private static void rings() {
        SnowTracks x = of("f00 f00 f00 f00 f00 f00 f00");
        x.row(3, 2);
        due("ring: none", x.ring(3), NONE);
        rowIs("ring: none", x, 3, 0, 0);
        // 0 went ahead of 1, 1 of 2, 2 of 3, 3 of 0
        x.cross(1, 0);
        x.cross(2, 1);
        x.cross(3, 2);
        x.cross(0, 3);
        due("ring of four", x.ring(3), 4);
        rowIs("ring of four", x, 3, 0, 1, 2, 3);
        // 6 ahead of 5, 5 of 4, 4 of 6
        x.cross(5, 6);
        x.cross(4, 5);
        x.cross(6, 4);
        due("ring of three", x.ring(3), 3);
        rowIs("ring of three", x, 3, 4, 6, 5);
        // 2 ahead of 4, 4 of 3, 3 of 2: also three, its least one is less
        x.cross(4, 2);
        x.cross(3, 4);
        x.cross(2, 3);
        due("ring of two", x.ring(3), 2);
        rowIs("ring of two", x, 3, 2, 3);
        due("ring(6)", x.ring(6), BAD);
        due("ring(-1)", x.ring(-1), BAD);
        x = of("f00 f00 f00 f00 1>0 2>0 3>1 3>2 0>3");
        x.ring(0);
        rowIs("ring: the first of alike ones", x, 0, 0, 1, 3);
        x = of("f00 f09 1>0");
        x.wind(1);
        due("ring with the wind", x.ring(0), 2);
        rowIs("ring with the wind", x, 0, 0, 1);
        x = of("f00f00f00f00f00f00f00 1>0 2>1 3>2 4>3 5>4 6>5 0>6");
        due("ring of seven", x.ring(0), 7);
        rowIs("ring of seven", x, 0, 0, 1, 2, 3, 4, 5, 6);
        x.snow(6);
        due("chain of seven", x.chain(6), 7);
        due("hide of seven", x.hide(0, 6), 1);
        due("place of seven", x.place(6), 6);
        due("meet of seven", x.meet(0, 6), 0);
        due("sure of seven", x.sure(0, 6), 1);
    }

    // Promise 32
    private static void wrongs() {
        SnowTracks x = of("f00 f00 h00 1>0 2>1");
        x.wrong();
        due("wrong: none", x.wrong(), 0);
        due("wrong: none: asked()", x.asked(), 0);
        x.cross(0, 1);
        due("wrong: one", x.wrong(), 1);
        due("wrong: the least", x.asked(), 1);
        x.cross(1, 0);
        due("wrong: the fewest", x.wrong(), 1);
        due("wrong: the fewest: asked()", x.asked(), 4);
        x = of("f00 f09 f00 1>0 1>0 2>0");
        x.wind(1);
        due("wrong: against the wind", x.wrong(), 2);
        due("wrong: against the wind: asked()", x.asked(), 3);
        StringBuilder all = new StringBuilder("f00f00");
        for (int k = 0; k < 16; k++) {
            all.append(k < 8 ? "0>1" : "1>0");
        }
        x = of(all.toString());
        due("wrong: eight", x.wrong(), 8);
        due("wrong: eight: asked()", x.asked(), 255);
    }

    // Promise 33
    private static void twices() {
        SnowTracks x = of("f00 f00 f00 1>0 2>1");
        due("twice: none", x.twice(), 0);
        due("twice: none: asked()", x.asked(), 0);
        x.cross(0, 1);
        x.cross(1, 2);
        due("twice: the fewest", x.twice(), 1);
        due("twice: the fewest: asked()", x.asked(), 2);
        x = of("f00 f00 f00 f00 1>0 0>1 3>2 2>3");
        due("twice: two", x.twice(), 2);
        due("twice: the least", x.asked(), 5);
        x = of("f00 f09 f00 1>0 2>0");
        x.wind(1);
        due("twice: by the wind neither", x.twice(), 1);
        due("twice: by the wind neither: asked()", x.asked(), 1);
    }

    // Promise 34
    private static void looks() {
        SnowTracks x = of("f00 f00 f00");
        due("look()", x.look(), 1);
        due("look: asked()", x.asked(), 3);
        x = of("f00 f00 f00 f00 1>0 2>1");
        due("look: fewest at most", x.look(), 13);
        due("look: fewest at most: asked()", x.asked(), 2);
        x.cross(3, 2);
        due("look: all is sure", x.look(), NONE);
        due("look: asked() behind NONE", x.asked(), 2);
        x = of(RING);
        found("look in a ring", x, x.look(), NOUGHT);
        x = of("f00");
        due("look of one", x.look(), NONE);
    }

    // Promise 35
    private static void hidden() {
        SnowTracks x = of("f00 f00 f00 f00 f09 1>0 2>0 3>1 3>2 3>1 3>0 3>4");
        due("hide(0, 3)", x.hide(0, 3), 3);
        due("hide(1, 3)", x.hide(1, 3), 2);
        due("hide(0, 1)", x.hide(0, 1), 1);
        due("hide(3, 0)", x.hide(3, 0), 0);
        due("hide(1, 2)", x.hide(1, 2), 0);
        x.wind(1);
        due("hide: wind aside", x.hide(4, 0), 0);
        due("hide: wind aside", x.hide(4, 3), 1);
        due("hide(0, 0)", x.hide(0, 0), BAD);
        due("hide(5, 0)", x.hide(5, 0), BAD);
        due("hide(0, -1)", x.hide(0, -1), BAD);
        x.cross(4, 0);
        due("hide: a ring by the wind is none", x.hide(0, 4), 1);
        x.cross(0, 3);
        found("hide in a ring", x, x.hide(0, 4), NOUGHT);
    }

    // Promise 36
    private static void people() {
        SnowTracks x = of("f40 f50 f60 f70");
        due("people()", x.people(), 2);
        due("people: asked()", x.asked(), 2);
        x.cross(0, 1);
        due("people: who cross", x.people(), 3);
        due("people: who cross: asked()", x.asked(), 1);
        x = of("f40 w40 h50 v50 1>3");
        due("people: crossing without telling", x.people(), 2);
        due("people: crossing without telling: asked()", x.asked(), 3);
        x = of("f00f20f40f60f80f90f50");
        due("people: many", x.people(), 5);
        due("people: many: asked()", x.asked(), 1);
        x = of("f40f50f40f50f40f50f40");
        due("people: one", x.people(), 1);
        due("people: one: asked()", x.asked(), 7);
        x = of("f40 f40 f40 0>2");
        due("people: track 0 with another one", x.people(), 2);
        due("people: track 0 with another one: asked()", x.asked(), 2);
    }

    // Promise 37
    private static void stories() {
        SnowTracks x = of("f00 f00 f00 f00 1>0");
        lay(x, 0, 1, 12, 23);
        due("story: none", x.story(0), 3);
        lay(x, 0, 12, 20, 31);
        due("story: by what went ahead", x.story(0), 1);
        lay(x, 0, 12, 23, 31, 10);
        due("story: by the claims ahead of it", x.story(0), 2);
        lay(x, 0, 10);
        due("story: the first", x.story(0), 0);
        lay(x, 0);
        due("story of none", x.story(0), 0);
        claimsAreChecked("story", x);
    }

    /** Wrong inputs of story(), hold(), believe(); four tracks. */
    private static void claimsAreChecked(String name, SnowTracks x) {
        due(name + "(6)", claim(name, x, 6), BAD);
        due(name + "(-1)", claim(name, x, -1), BAD);
        x.row(5, 1);
        x.tear(5);
        found(name + "(5)", x, claim(name, x, 5), NOTHING);
        x.row(5, 9);
        found(name + " of nine", x, claim(name, x, 5), SIZE);
        int[] wrong = {0, 33, 4, 40, 14, 100, 310, -1, -10, -12, MIN, MAX};
        for (int v : wrong) {
            lay(x, 5, 1, v);
            found(name + " of " + v, x, claim(name, x, 5), UNLIKE);
        }
        lay(x, 5, 1, 12, 23, 1, 12, 23, 3, 13);
        long answer = claim(name, x, 5);
        due(name + " of eight", answer, name.equals("believe") ? 1 : 8);
        x.cross(0, 3);
        x.cross(3, 0);
        found(name + " in a ring", x, claim(name, x, 5), NOUGHT);
        lay(x, 5, 1, 11);
        found(name + " of 11 in a ring", x, claim(name, x, 5), UNLIKE);
    }

    private static long claim(String name, SnowTracks x, int r) {
        switch (name) {
            case "story":
                return x.story(r);
            case "hold":
                return x.hold(r);
            default:
                return x.believe(r);
        }
    }

    // Promise 38
    private static void held() {
        SnowTracks x = of("f00 f00 f00 f00 1>0");
        lay(x, 0, 12, 20, 31);
        due("hold: two", x.hold(0), 2);
        due("hold: two: asked()", x.asked(), 5);
        lay(x, 0, 23, 32, 23, 10);
        due("hold: the most", x.hold(0), 2);
        due("hold: the most: asked()", x.asked(), 5);
        lay(x, 0, 23, 32);
        due("hold: the least", x.hold(0), 1);
        due("hold: the least: asked()", x.asked(), 1);
        lay(x, 0, 12, 23, 31);
        due("hold: the least of three", x.hold(0), 2);
        due("hold: the least of three: asked()", x.asked(), 3);
        lay(x, 0, 10, 10, 10, 10, 10, 10, 10, 10);
        due("hold: none of eight", x.hold(0), 0);
        due("hold: none of eight: asked()", x.asked(), 0);
        lay(x, 0, 1, 2, 3, 1, 2, 3, 1, 12);
        due("hold: all of eight", x.hold(0), 8);
        due("hold: all of eight: asked()", x.asked(), 255);
        lay(x, 0);
        due("hold of none", x.hold(0), 0);
        due("hold of none: asked()", x.asked(), 0);
        claimsAreChecked("hold", x);
    }

    // Promise 39
    private static void believed() {
        SnowTracks x = of("f00 f00 f00 f00 1>0");
        lay(x, 0, 23);
        due("believe", x.believe(0), 1);
        fractionIs("believe", x, 1, 2);
        lay(x, 0, 12, 23);
        x.believe(0);
        fractionIs("believe of all together", x, 1, 12);
        lay(x, 0, 23, 32);
        x.believe(0);
        fractionIs("believe of what can't be", x, 0, 1);
        lay(x, 0);
        x.believe(0);
        fractionIs("believe of none", x, 1, 1);
        due("believe changes nothing", x.sure(2, 3), 0);
        claimsAreChecked("believe", x);
    }

    // Promise 40
    private static void walked() {
        SnowTracks x = of("f00 f00 f00");
        lay(x, 0, 2, 0, 1);
        long lot = 5;
        int came = 0;
        int[] want = new int[16];
        for (int i = 0; i < 16; i++) {
            lot = lot * 48271 % 2147483647;
            int one = (int) (lot % 3);
            int other = (int) (lot / 64 % 3);
            if (one != other) {
                boolean oneBehind = (one + 1) % 3 > (other + 1) % 3;
                want[came++] = oneBehind ? 10 * one + other : 10 * other + one;
            }
        }
        due("walks(0, 16, 5)", x.walks(0, 16, 5), came);
        due("walks: count(1)", x.count(1), came);
        for (int k = 0; k < came; k++) {
            due("walks: crossing(" + k + ")", x.crossing(k), want[k]);
        }
        due("walks keep to the order", x.judge(0), came);
        due("walks until there are 16", x.walks(0, 16, 2147483646), 16 - came);
        due("walks when there are 16", x.walks(0, 16, 1), 0);
        due("walks(6, ..)", x.walks(6, 1, 1), BAD);
        due("walks(-1, ..)", x.walks(-1, 1, 1), BAD);
        due("walks(0, 0, 1)", x.walks(0, 0, 1), BAD);
        due("walks(0, 17, 1)", x.walks(0, 17, 1), BAD);
        due("walks(0, 1, 0)", x.walks(0, 1, 0), BAD);
        due("walks(0, 1, MAX)", x.walks(0, 1, MAX), BAD);
        due("walks(0, 1, -1)", x.walks(0, 1, -1), BAD);
        found("walks(1, 1, 1)", x, x.walks(1, 1, 1), NOTHING);
        lay(x, 1, 0, 1);
        found("walks of too few", x, x.walks(1, 1, 1), SIZE);
        lay(x, 1, 0, 1, 1);
        found("walks of one twice", x, x.walks(1, 1, 1), UNLIKE);
        lay(x, 1, 0, 1, 3);
        found("walks of none of them", x, x.walks(1, 1, 1), UNLIKE);
        SnowTracks one = of("f00");
        due("walks of one: the row is missing", one.walks(0, 1, 1), STATE);
        due("walks of one, BAD first", one.walks(0, 0, 1), BAD);
        due("walks of one is no finding", one.finding(), 0);
        SnowTracks two = of("f00 f00");
        lay(two, 0, 0, 1);
        due("walks of two", two.walks(0, 16, 9) > 0 ? 1 : 0, 1);
        due("walks of two: crossing(0)", two.crossing(0), 10);
    }

    // Promises 41, 42, 43
    private static void told() {
        SnowTracks x = of("f00 f00 f00 1>0 2>1");
        x.place(2);
        due("asked() of place(2)", x.asked(), 2);
        x.orders();
        x.odds(0, 1);
        x.ahead(0, 1);
        x.sure(0, 1);
        x.meet(0, 1);
        x.first(0);
        x.nth(0, 0);
        x.ring(0);
        x.hide(0, 2);
        lay(x, 1);
        x.story(1);
        x.believe(1);
        x.cross(0, 2);
        x.snow(2);
        x.keep(0);
        x.on(0);
        x.mark(0, 1);
        x.fill(0, 4);
        x.wind(0);
        x.copy(0, 0, 0, 0, 1);
        x.look();
        x.digest();
        x.count(2);
        due("asked() of the latest that tells", x.asked(), 2);
        fractionIs("believe told last", x, 1, 1);
        due("walks(0, 1, 1)", x.walks(0, 1, 1) >= 0 ? 1 : 0, 1);
        due("asked() behind walks()", x.asked(), 2);
    }

    // Promise 44
    private static void counts() {
        SnowTracks x = of("f00 h00 c00 e00 v00 w00 0>1 1>0 2>3 5>0");
        x.row(3, 0);
        x.first(1);
        x.text(3, 0);
        x.text(2, 4);
        x.keep(2);
        int[] want = {6, 4, 2, 2, 2, 1, 2, 3};
        for (int what = 0; what <= 7; what++) {
            due("count(" + what + ")", x.count(what), want[what]);
        }
        due("count(8)", x.count(8), BAD);
        due("count(-1)", x.count(-1), BAD);
        due("count(MAX)", x.count(MAX), BAD);
    }

    // Promises 45, 46
    private static void findings() {
        SnowTracks x = of("f00 f00");
        x.tear(0);
        x.crossing(0);
        x.mark(0, 1);
        x.nth(9, 0);
        x.nth(10, 0);
        x.row(0, -1);
        int[] want = {1, 1, 1, 2, 1};
        for (int f = 1; f <= 5; f++) {
            due("findings(" + f + ")", x.findings(f), want[f - 1]);
        }
        due("finding()", x.finding(), SIZE);
        x.row(7, -1);
        x.row(0, 2);
        due("finding() stays", x.finding(), SIZE);
        due("findings(0)", x.findings(0), BAD);
        due("findings(6)", x.findings(6), BAD);
        due("findings(-1)", x.findings(-1), BAD);
        due("findings(MIN)", x.findings(MIN), BAD);
    }

    private static long mix(long h, long... values) {
        long mixed = h;
        for (long v : values) {
            mixed = 31 * mixed + v;
        }
        return mixed;
    }

    // Promise 47
    private static void digests() {
        SnowTracks x = new SnowTracks();
        long h = mix(17, 0, 0, 0, 0, 0, 0, 0, 0, 0, -1, -1, -1, -1, -1, -1, -1, -1, -1, -1, -1, -1, -1);
        due("digest() of a new object", x.digest(), h);
        x = of("h4- e09 0>1");
        x.keep(1);
        x.cross(1, 0);
        x.wind(1);
        lay(x, 2, 7, -7);
        x.row(4, 0);
        x.text(0, 1);
        x.put(0, 0, 200);
        h = mix(17, 2, 2, 1, 1, 1, 1, 2, 1, 1);
        h = mix(h, 1, 4, -9, 1, 1, 2, 0, 9, 1, 1);
        h = mix(h, 1, 10, -1, 1, -1);
        h = mix(h, -1, -1, 2, 7, -7, -1, 0, -1);
        h = mix(h, 1, -56, -1, -1, -1);
        int asked = x.asked();
        due("digest()", x.digest(), h);
        due("digest() again", x.digest(), h);
        due("asked() behind digest()", x.asked(), asked);
    }

    /** Without tracks there is one order, of none. */
    private static void emptyPass() {
        SnowTracks x = new SnowTracks();
        due("empty: orders()", x.orders(), 1);
        fractionIs("empty: orders()", x, 1, 1);
        due("empty: first(0)", x.first(0), 1);
        due("empty: at(0, 0)", x.at(0, 0), FINDING);
        due("empty: judge(0)", x.judge(0), 0);
        due("empty: nth(0, 1)", x.nth(0, 1), 1);
        found("empty: nth(1, 1)", x, x.nth(1, 1), NOUGHT);
        due("empty: ring(0)", x.ring(0), NONE);
        due("empty: wrong()", x.wrong(), 0);
        due("empty: twice()", x.twice(), 0);
        due("empty: look()", x.look(), NONE);
        due("empty: people()", x.people(), 0);
        due("empty: people: asked()", x.asked(), 0);
        due("empty: story(0)", x.story(0), 0);
        due("empty: hold(0)", x.hold(0), 0);
        due("empty: believe(0)", x.believe(0), 1);
        due("empty: snow(0)", x.snow(0), 0);
        due("empty: snow(1)", x.snow(1), BAD);
        due("empty: place(0)", x.place(0), BAD);
        due("empty: walks(0, 1, 1)", x.walks(0, 1, 1), STATE);
        lay(x, 0, 1);
        found("empty: a claim", x, x.story(0), UNLIKE);
    }
}

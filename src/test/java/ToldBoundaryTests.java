/** The boundary cases of the promises 37 to 47: stories, walks, what is told. */
public final class ToldBoundaryTests extends Checks {
    private static final Scene NEW = () -> new SnowTracks();
    private static final Scene RING = of(feet(3) + "0>11>0");
    private static final Scene WIND_RING = of("f00f09f0-1>0").then(x -> x.wind(1));
    private static final Scene EMPTY = of("");
    private static final Scene ONE = of("f0-");

    private ToldBoundaryTests() {
    }

    public static void main(String[] args) {
        claims("story", (x, r) -> x.story(r));
        claims("hold", (x, r) -> x.hold(r));
        claims("believe", (x, r) -> x.believe(r));
        promise37();
        promise38();
        promise39();
        promise40();
        walkedRows();
        walksUntilFull();
        promise41();
        askedOfOthers();
        promises42And43();
        promise44();
        promise45();
        promise46();
        promise47();
        finish();
    }

    // ---- stories

    /** What a row of claims may be, for story(), hold(), believe(). */
    private static void claims(String name, NumberCall call) {
        Scene s = of(feet(3));
        found(name + " of no row", s, x -> call.on(x, 0), NOTHING);
        found(name + " of a torn row", s.then(x -> x.tear(3)), x -> call.on(x, 3), NOTHING);
        answers(name + " of none", s, x -> call.on(x, 4) >= 0 ? 1 : 0, 1);
        answers(name + " of eight", s.row(0, 1, 1, 1, 1, 1, 1, 1, 1), x -> call.on(x, 0) >= 0 ? 1 : 0, 1);
        found(name + " of nine", s.row(0, 1, 1, 1, 1, 1, 1, 1, 1, 1), x -> call.on(x, 0), SIZE);
        found(name + " of forty", s.then(x -> x.row(0, 40)), x -> call.on(x, 0), SIZE);
        found(name + ": SIZE ahead of UNLIKE", s.then(x -> x.row(0, 9)), x -> call.on(x, 0), SIZE);
        for (int v : new int[] {1, 2, 10, 12, 20, 21}) {
            answers(name + " of " + v, s.row(0, v), x -> call.on(x, 0) >= 0 ? 1 : 0, 1);
        }
        for (int v : new int[] {0, 11, 22, 3, 13, 23, 30, 31, 32, 33, 9, 19, 90, 100, 101, 120, -1, -2, -10, -12, -21, MIN, MAX}) {
            found(name + " of " + v, s.row(0, v), x -> call.on(x, 0), UNLIKE);
            found(name + " of " + v + " at last", s.row(0, 1, 1, 1, 1, 1, 1, 1, v), x -> call.on(x, 0), UNLIKE);
        }
        Scene seven = of(feet(7));
        answers(name + " of the last two", seven.row(0, 56, 65), x -> call.on(x, 0) >= 0 ? 1 : 0, 1);
        for (int v : new int[] {66, 67, 70, 76, 7}) {
            found(name + " of " + v + " among seven", seven.row(0, v), x -> call.on(x, 0), UNLIKE);
        }
        found(name + " of one track", ONE.row(0, 1), x -> call.on(x, 0), UNLIKE);
        found(name + " of one track of itself", ONE.row(0, 0), x -> call.on(x, 0), UNLIKE);
        found(name + " without tracks", EMPTY.row(0, 1), x -> call.on(x, 0), UNLIKE);
        answers(name + " of none without tracks", EMPTY, x -> call.on(x, 4) >= 0 ? 1 : 0, 1);
        found(name + " in a ring", RING.row(0, 2), x -> call.on(x, 0), NOUGHT);
        found(name + " of none in a ring", RING, x -> call.on(x, 4), NOUGHT);
        found(name + " in a ring with the wind", WIND_RING.row(0, 2), x -> call.on(x, 0), NOUGHT);
        found(name + ": UNLIKE ahead of NOUGHT", RING.row(0, 3), x -> call.on(x, 0), UNLIKE);
        found(name + ": SIZE ahead of NOUGHT", RING.then(x -> x.row(0, 9)), x -> call.on(x, 0), SIZE);
        found(name + ": NOTHING ahead of NOUGHT", RING, x -> call.on(x, 0), NOTHING);
        answers(name + " changes no crossings", s.row(0, 1, 12, 20).then(x -> call.on(x, 0)), x -> x.sure(0, 1), 0);
    }

    private static void promise37() {
        Scene s = of(feet(3) + "1>0");
        tellsAlone("story: none of none", s, x -> x.story(4), 0);
        tellsAlone("story: none of one", s.row(0, 1), x -> x.story(0), 1);
        tellsAlone("story: the only one", s.row(0, 10), x -> x.story(0), 0);
        tellsAlone("story: none of eight", s.row(0, 1, 12, 2, 1, 12, 2, 1, 12), x -> x.story(0), 8);
        tellsAlone("story: the last of eight", s.row(0, 1, 12, 2, 1, 12, 2, 1, 20), x -> x.story(0), 7);
        tellsAlone("story: the first of two", s.row(0, 12, 20, 10), x -> x.story(0), 1);
        tellsAlone("story: by the claims ahead of it alone", s.row(0, 12, 21), x -> x.story(0), 1);
        tellsAlone("story: not by those behind it", s.row(0, 21, 12), x -> x.story(0), 1);
        tellsAlone("story: by the first of the claims ahead", of(feet(3)).row(0, 1, 2, 10), x -> x.story(0), 2);
        tellsAlone("story: the same again", s.row(0, 12, 12), x -> x.story(0), 2);
        tellsAlone("story: by the wind", of("f00f02").then(x -> x.wind(1)).row(0, 1), x -> x.story(0), 0);
        tellsAlone("story: not by the wind", of("f00f01").then(x -> x.wind(1)).row(0, 1), x -> x.story(0), 1);
        tellsAlone("story: a line of seven closed", of(feet(7)).row(0, 1, 12, 23, 34, 45, 56, 60), x -> x.story(0), 6);
    }

    private static void promise38() {
        Scene s = of(feet(3) + "1>0");
        asks("hold: none of none", s, x -> x.hold(4), 0, 0);
        asks("hold: one of one", s.row(0, 1), x -> x.hold(0), 1, 1);
        asks("hold: none of one", s.row(0, 10), x -> x.hold(0), 0, 0);
        asks("hold: none of eight", s.row(0, 10, 10, 10, 10, 10, 10, 10, 10), x -> x.hold(0), 0, 0);
        asks("hold: all of eight", s.row(0, 1, 12, 2, 1, 12, 2, 1, 12), x -> x.hold(0), 8, 255);
        asks("hold: all but the first", s.row(0, 10, 12, 2, 1, 12, 2, 1, 12), x -> x.hold(0), 7, 254);
        asks("hold: all but the last", s.row(0, 1, 12, 2, 1, 12, 2, 1, 10), x -> x.hold(0), 7, 127);
        asks("hold: the least", s.row(0, 12, 21), x -> x.hold(0), 1, 1);
        asks("hold: the most, not the least", s.row(0, 12, 21, 21), x -> x.hold(0), 2, 6);
        asks("hold: the least of four and four", s.row(0, 12, 21, 12, 21, 12, 21, 12, 21), x -> x.hold(0), 4, 0x55);
        asks("hold: the least of three", of(feet(3)).row(0, 1, 12, 20), x -> x.hold(0), 2, 3);
        asks("hold: behind another row", s.row(0, 10, 10, 10).row(1, 1, 10).then(x -> x.hold(0)), x -> x.hold(1), 1, 1);
        asks("hold: behind wrong()", s.row(0, 1, 10).then(x -> x.wrong()), x -> x.hold(0), 1, 1);
        asks("hold: by the wind", of("f00f02").then(x -> x.wind(1)).row(0, 1, 10), x -> x.hold(0), 1, 2);
        asks("hold: not by the wind", of("f00f01").then(x -> x.wind(1)).row(0, 1, 10), x -> x.hold(0), 1, 1);
    }

    private static void promise39() {
        Scene s = of(feet(3) + "1>0");
        fraction("believe: no claims", s, x -> x.believe(4), 1, 1);
        fraction("believe: what is sure", s.row(0, 1), x -> x.believe(0), 1, 1);
        fraction("believe: what can't be", s.row(0, 10), x -> x.believe(0), 0, 1);
        fraction("believe: 2 of 3", s.row(0, 2), x -> x.believe(0), 2, 3);
        fraction("believe: all together", s.row(0, 2, 12), x -> x.believe(0), 1, 3);
        fraction("believe: not together", s.row(0, 12, 21), x -> x.believe(0), 0, 1);
        fraction("believe: a ring of claims", of(feet(3)).row(0, 1, 12, 20), x -> x.believe(0), 0, 1);
        fraction("believe: eight", s.row(0, 1, 12, 2, 1, 12, 2, 1, 12), x -> x.believe(0), 1, 3);
        fraction("believe: one of 5040", of(feet(7)).row(0, 1, 12, 23, 34, 45, 56, 6, 15), x -> x.believe(0), 1, 5040);
        fraction("believe: without tracks", EMPTY, x -> x.believe(4), 1, 1);
        fraction("believe: of one", ONE, x -> x.believe(4), 1, 1);
    }

    // ---- walks

    private static void promise40() {
        Scene s = of(feet(2)).row(0, 0, 1);
        numbers("how many walks", s, 1, 16, (x, n) -> x.walks(0, n, 1));
        numbers("the seed", s, 1, 2147483646, (x, seed) -> x.walks(0, 1, seed));
        refused("walks without tracks", EMPTY, x -> x.walks(4, 1, 1), STATE);
        refused("walks of one", ONE.row(0, 0), x -> x.walks(0, 1, 1), STATE);
        refused("walks of one, no row", ONE, x -> x.walks(0, 16, 2147483646), STATE);
        refused("walks of one, BAD ahead of STATE", ONE, x -> x.walks(0, 17, 1), BAD);
        refused("walks in a new object", NEW, x -> x.walks(0, 1, 1), STATE);
        answers("walks of two", s, x -> x.walks(0, 1, 1) >= 0 ? 1 : 0, 1);
        for (int tracks = 2; tracks <= 7; tracks++) {
            for (int n : new int[] {1, 2, 15, 16}) {
                for (int seed : new int[] {1, 5, 2147483646}) {
                    walksAre(tracks, n, seed);
                }
            }
        }
        asks("walks tell by their answer alone", s.then(x -> x.at(3, 0)), x -> x.walks(0, 1, 1) >= 0 ? 1 : 0, 1, 7);
    }

    /** The walks of a seed in an order that goes backwards. */
    private static void walksAre(int tracks, int n, int seed) {
        int[] order = new int[tracks];
        for (int i = 0; i < tracks; i++) {
            order[i] = tracks - 1 - i;
        }
        SnowTracks x = of(feet(tracks)).row(5, order).make();
        String name = "walks of " + tracks + ", " + n + " by " + seed;
        int[] want = new int[n];
        int came = 0;
        long lot = seed;
        for (int i = 0; i < n; i++) {
            lot = lot * 48271L % 2147483647L;
            int one = (int) (lot % tracks);
            int other = (int) (lot / 64 % tracks);
            if (one != other) {
                want[came] = 10 * Math.min(one, other) + Math.max(one, other);
                came++;
            }
        }
        due(name, x.walks(5, n, seed), came);
        due(name + ": how many there are", x.count(1), came);
        for (int k = 0; k < came; k++) {
            due(name + ": crossing " + k, x.crossing(k), want[k]);
        }
    }

    private static void walkedRows() {
        Scene s = of(feet(3));
        found("walks in no row", s, x -> x.walks(0, 1, 1), NOTHING);
        found("walks of one too few", s, x -> x.walks(3, 1, 1), SIZE);
        found("walks of none", s, x -> x.walks(4, 1, 1), SIZE);
        found("walks of one too many", s.row(0, 0, 1, 2, 0), x -> x.walks(0, 1, 1), SIZE);
        found("walks: SIZE ahead of UNLIKE", s.row(0, 9, 9), x -> x.walks(0, 1, 1), SIZE);
        for (int v : new int[] {MIN, -1, 3, 32, MAX}) {
            found("walks of " + v, s.row(0, 0, 1, v), x -> x.walks(0, 1, 1), UNLIKE);
        }
        found("walks of one twice", s.row(0, 0, 1, 0), x -> x.walks(0, 1, 1), UNLIKE);
        found("walks in no row, when there are 16", of(feet(2) + times("0>1", 16)), x -> x.walks(0, 1, 1), NOTHING);
        answers("walks in a ring", RING.row(0, 0, 1, 2), x -> x.walks(0, 1, 1) >= 0 ? 1 : 0, 1);
    }

    private static void walksUntilFull() {
        Scene fifteen = of(feet(7) + times("0>1", 15)).then(x -> x.first(0));
        answers("walks when one more can be", fifteen, x -> x.walks(0, 16, 5), 1);
        answers("walks: then there are 16", fifteen.then(x -> x.walks(0, 16, 5)), x -> x.count(1), 16);
        Scene sixteen = of(feet(7) + times("0>1", 16)).then(x -> x.first(0));
        tellsAlone("walks when there are 16", sixteen, x -> x.walks(0, 16, 5), 0);
        refused("walks: BAD when there are 16", sixteen, x -> x.walks(0, 17, 5), BAD);
        Scene two = of(feet(2)).row(0, 0, 1);
        int alike = -1;
        for (int seed = 1; seed < 99 && alike < 0; seed++) {
            long lot = 48271L * seed;
            alike = lot % 2 == lot / 64 % 2 ? seed : -1;
        }
        int passed = alike;
        tellsAlone("walks of one with itself are passed", two, x -> x.walks(0, 1, passed), 0);
    }

    // ---- what is told

    private static void promise41() {
        answers("asked() before", NEW, x -> x.asked(), 0);
        Scene s = of("f0-h0-f0-f0- 0>11>00>23>0").row(0, 3, 2, 1, 0).row(1, 1, 10, 12);
        asks("lay tells", s, x -> x.lay(3, 1, 5), 1, -7);
        asks("at tells", s, x -> x.at(3, 1), 1, -7);
        asks("mean tells", s, x -> x.mean(3), 1, 0);
        asks("track tells", s, x -> x.track(0, 3), 1, 2);
        asks("crossing tells", s, x -> x.crossing(1), 10, 0);
        asks("place tells", s, x -> x.place(3), 3, 3);
        asks("judge tells", s, x -> x.judge(0), 3, 1);
        asks("chain tells", s, x -> x.chain(1), 1, 3);
        asks("wrong tells", s, x -> x.wrong(), 0, 0);
        asks("twice tells", s, x -> x.twice(), 0, 0);
        asks("look tells", s, x -> x.look(), 12, 1);
        asks("people tells", s, x -> x.people(), 2, 1);
        asks("hold tells", s, x -> x.hold(1), 2, 6);
        tellsAlone("look that is NONE tells nothing", ONE, x -> x.look(), NONE);
    }

    /** All other calls leave asked() as it was. */
    private static void askedOfOthers() {
        Scene s = of("f0-h0-w0-f0- 0>11>00>23>0").row(0, 3, 2, 1, 0).row(1, 1, 10, 12).then(x -> x.at(3, 0));
        Call[] others = {x -> x.row(5, 3), x -> x.tear(0), x -> x.copy(3, 1, 3, 0, 1), x -> x.text(2, 3),
            x -> x.put(1, 0, 9), x -> x.fault(0), x -> x.pass(1), x -> x.mark(1, 1), x -> x.wind(1), x -> x.fill(0, 4),
            x -> x.cross(0, 1), x -> x.snow(0), x -> x.keep(0), x -> x.on(0), x -> x.ahead(0, 1), x -> x.orders(),
            x -> x.first(5), x -> x.nth(0, 5), x -> x.sure(0, 1), x -> x.odds(0, 1), x -> x.meet(0, 1), x -> x.ring(5),
            x -> x.hide(0, 1), x -> x.story(1), x -> x.believe(1), x -> x.walks(0, 3, 3), x -> x.asked(), x -> x.upper(),
            x -> x.lower(), x -> x.count(0), x -> x.finding(), x -> x.findings(1), x -> x.digest()};
        for (int i = 0; i < others.length; i++) {
            SnowTracks x = s.make();
            others[i].on(x);
            due("asked() behind other call " + i, x.asked(), 7);
        }
    }

    private static void promises42And43() {
        answers("upper() before", NEW, x -> x.upper(), 0);
        answers("lower() before", NEW, x -> x.lower(), 1);
        SnowTracks x = of(feet(3) + "1>0").row(0, 2).row(1, 12, 21).make();
        due("upper() of the last fraction", x.upper(), 1);
        due("lower() of the last fraction", x.lower(), 2);
        Call[] others = {y -> y.first(5), y -> y.nth(0, 5), y -> y.sure(0, 1), y -> y.place(0), y -> y.judge(5),
            y -> y.meet(0, 1), y -> y.chain(0), y -> y.ring(5), y -> y.wrong(), y -> y.twice(), y -> y.look(),
            y -> y.hide(0, 1), y -> y.people(), y -> y.story(0), y -> y.hold(1), y -> y.walks(5, 1, 1), y -> y.mean(3),
            y -> y.pass(0), y -> y.keep(1), y -> y.on(1), y -> y.digest(), y -> y.odds(0, 0), y -> y.believe(6),
            y -> y.believe(2)};
        for (int i = 0; i < others.length; i++) {
            others[i].on(x);
            due("upper() behind other call " + i, x.upper(), 1);
            due("lower() behind other call " + i, x.lower(), 2);
        }
        Scene s = of(feet(3) + "1>0").row(0, 2);
        fraction("orders tells", s, y -> y.orders(), 3, 1);
        fraction("odds tells", s, y -> y.odds(2, 0), 1, 3);
        fraction("believe tells", s, y -> y.believe(0), 2, 3);
    }

    private static void countsAre(String name, SnowTracks x, int... want) {
        for (int what = 0; what <= 7; what++) {
            due(name + ": count(" + what + ")", x.count(what), want[what]);
        }
    }

    private static void promise44() {
        numbers("count", of("f00"), 0, 7, (x, what) -> x.count(what));
        countsAre("nothing there", NEW.make(), 0, 0, 0, 0, 0, 0, 0, 0);
        SnowTracks x = of("c00c00h00h00h00c00c00" + times("0>1", 16)).make();
        fillAll(x);
        countsAre("all heavy ones", x, 7, 16, 0, 7, 0, 3, 6, 4);
        x = of("e00e00v00v00v00e00e00" + times("0>1", 16)).make();
        countsAre("all hares", x, 7, 16, 0, 0, 7, 2, 2, 3);
        x = of("f00f00w00w00w00w00w00" + times("0>1", 16)).make();
        countsAre("all that tell", x, 7, 16, 16, 0, 0, 2, 2, 3);
        x = of("f00h00e00w00c00v00 0>11>04>2").make();
        countsAre("some", x, 6, 3, 2, 2, 2, 2, 2, 3);
        x.snow(2);
        x.tear(4);
        countsAre("fewer", x, 6, 2, 1, 2, 2, 2, 1, 3);
        x.text(1, 0);
        x.pass(1);
        countsAre("no tracks", x, 0, 0, 0, 0, 0, 0, 1, 3);
    }

    /** All rows, texts and places of kept passes are taken. */
    private static void fillAll(SnowTracks x) {
        for (int r = 0; r < 6; r++) {
            x.row(r, 0);
        }
        for (int t = 0; t < 4; t++) {
            x.text(t, 0);
        }
        for (int k = 0; k < 3; k++) {
            x.keep(k);
        }
    }

    private static void promise45() {
        answers("finding() before any", NEW, x -> x.finding(), 0);
        SnowTracks x = of(feet(2) + "0>11>0").make();
        due("finding() before any, for all else", x.finding(), 0);
        due("BAD is none", x.row(6, -1), BAD);
        due("NONE is none", x.first(0), NONE);
        due("STATE is none", x.pass(3), STATE);
        due("finding() behind those", x.finding(), 0);
        due("NOTHING", x.tear(0), FINDING);
        due("finding() 1", x.finding(), NOTHING);
        due("SIZE", x.row(0, -1), FINDING);
        due("finding() 5", x.finding(), SIZE);
        due("NOUGHT", x.look(), FINDING);
        due("finding() 4", x.finding(), NOUGHT);
        due("UNLIKE", x.mark(0, 5), FINDING);
        due("finding() 3", x.finding(), UNLIKE);
        due("BEYOND", x.crossing(2), FINDING);
        due("finding() 2", x.finding(), BEYOND);
        due("a call that is answered", x.row(0, 3), 3);
        due("BAD", x.row(6, -1), BAD);
        due("finding() stays", x.finding(), BEYOND);
        due("finding() asked again stays", x.finding(), BEYOND);
    }

    private static void promise46() {
        Scene s = of(feet(2));
        numbers("findings", s, 1, 5, (x, f) -> x.findings(f));
        for (int f = NOTHING; f <= SIZE; f++) {
            int which = f;
            answers("findings(" + f + ") before", NEW, x -> x.findings(which), 0);
        }
        SnowTracks x = s.make();
        for (int i = 0; i < 3; i++) {
            x.crossing(0);
        }
        x.row(0, -1);
        x.row(6, -1);
        x.findings(6);
        int[] want = {0, 3, 0, 0, 1};
        for (int f = NOTHING; f <= SIZE; f++) {
            due("findings(" + f + ")", x.findings(f), want[f - 1]);
        }
    }

    // ---- the digest

    private static long mix(long h, long... values) {
        long mixed = h;
        for (long v : values) {
            mixed = 31 * mixed + v;
        }
        return mixed;
    }

    private static void promise47() {
        long h = mix(17, 0, 0, 0, 0, 0, 0, 0, 0, 0, -1, -1, -1, -1, -1, -1, -1, -1, -1, -1, -1, -1, -1);
        due("nothing there", new SnowTracks().digest(), h);
        SnowTracks x = new SnowTracks();
        fillAll(x);
        due("all of none", x.digest(), mix(17, 0, 0, 0, 0, 0, 0, 6, 4, 0, -1, -1, -1, 0, 0, 0, 0, 0, 0, 0, 0, 0, 0));
        x = bare("v9-");
        fillAll(x);
        x.wind(1);
        h = mix(17, 1, 0, 0, 0, 1, 3, 6, 4, 1, 5, 9, NONE, 0, 0);
        due("one track", x.digest(), mix(h, 0, 0, 0, 0, 0, 0, 0, 0, 0, 0, 0, 0, 0));
        x = bare("c09f50" + times("1>0", 16));
        fillAll(x);
        x.snow(3);
        x.keep(1);
        x.on(0);
        h = mix(17, 2, 16, 16, 1, 0, 3, 6, 4, 0, 4, 0, 9, 0, 16, 0, 5, 0, 16, 0);
        for (int k = 0; k < 16; k++) {
            h = mix(h, 10);
        }
        due("sixteen crossings", x.digest(), mix(h, 16, 3, 16, 0, 0, 0, 0, 0, 0, 0, 0, 0, 0));
        digestsOfFullRows();
        digestsOfWhatWent();
        tellsAlone("digest changes nothing", of("f0-f0-"), y -> y.digest() == y.digest() ? 1 : 0, 1);
    }

    /** What was there and is missing again is as if it had never been there. */
    private static void digestsOfWhatWent() {
        SnowTracks x = new SnowTracks();
        lay(x, 0, 1, 2);
        x.row(5, 40);
        x.tear(0);
        x.tear(5);
        due("torn rows", x.digest(), new SnowTracks().digest());
        x = of(feet(2) + "0>1").make();
        x.keep(1);
        x.pass(0);
        long h = mix(17, 2, 1, 1, 0, 0, 0, 2, 3, 0, 0, 0, NONE, 1, 0, 0, 0, NONE, 0, 1, 1, -1, -1, -1);
        h = mix(h, -1, -1, -1, 2, 7, -7, 0, -1);
        h = mix(h, 9, 'f', '0', '-', 'f', '0', '-', '0', '>', '1', 6, 'f', '0', '0', 'f', '0', '0', -1, 2, 'x', '>');
        due("kept passes that are gone", x.digest(), h);
    }

    /** So many that the long wraps around. */
    private static void digestsOfFullRows() {
        SnowTracks x = new SnowTracks();
        long h = mix(17, 0, 0, 0, 0, 0, 0, 2, 2, 0, -1, -1, -1);
        x.row(0, 40);
        h = mix(h, 40);
        for (int i = 0; i < 40; i++) {
            x.lay(0, i, i % 2 == 0 ? MIN + i : MAX - i);
            h = mix(h, i % 2 == 0 ? MIN + i : MAX - i);
        }
        x.row(5, 1);
        h = mix(h, -1, -1, -1, -1, 1, 0);
        x.text(0, 80);
        h = mix(h, 80);
        for (int i = 0; i < 80; i++) {
            x.put(0, i, 3 * i);
            h = mix(h, (byte) (3 * i));
        }
        x.text(3, 1);
        h = mix(h, -1, -1, 1, 32);
        due("full rows and texts", x.digest(), h);
    }
}

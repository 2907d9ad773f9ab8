/** The boundary cases of the promises 21 to 36: orders, rings, looks, hiding, people. */
public final class OrderBoundaryTests extends Checks {
    /** A line of seven, 0 the first. */
    private static final String LINE = feet(7) + "1>02>13>24>35>46>5";
    /** Three tracks, two of them in a ring. */
    private static final Scene RING = of(feet(3) + "0>11>0");
    /** No ring but with the wind. */
    private static final Scene WIND_RING = of("f00f09f0-1>0").then(x -> x.wind(1));
    private static final Scene EMPTY = of("");
    private static final Scene ONE = of("f0-");

    private OrderBoundaryTests() {
    }

    public static void main(String[] args) {
        promise21();
        promise22();
        promise23();
        promise24();
        promise25();
        promise26();
        promise27();
        promise28();
        judgedRows();
        promise29();
        promise30();
        promise31();
        promise32();
        promise33();
        promise34();
        promise35();
        promise36();
        peopleApart();
        finish();
    }

    /** A call of two tracks. */
    private interface PairCall {
        long on(SnowTracks x, int i, int j);
    }

    /** Two numbers of tracks, unlike ones: all else is BAD. */
    private static void pairs(String name, PairCall call) {
        for (int n : new int[] {2, 3, 7}) {
            Scene s = of(feet(n));
            numbers(name + " of " + n + ", the one", s, 0, n - 1, (x, i) -> call.on(x, i, 1));
            numbers(name + " of " + n + ", the other one", s, 0, n - 1, (x, j) -> call.on(x, 0, j));
            for (int i = 0; i < n; i++) {
                int track = i;
                refused(name + " of " + n + ", itself " + i, s, x -> call.on(x, track, track), BAD);
            }
            answers(name + " of " + n + ", the first and the last", s, x -> call.on(x, 0, n - 1) >= 0 ? 1 : 0, 1);
            answers(name + " of " + n + ", the last and the first", s, x -> call.on(x, n - 1, 0) >= 0 ? 1 : 0, 1);
        }
        refused(name + " of one", ONE, x -> call.on(x, 0, 0), BAD);
        refused(name + " of one and none", ONE, x -> call.on(x, 0, 1), BAD);
        refused(name + " of none", EMPTY, x -> call.on(x, 0, 1), BAD);
        refused(name + " of itself in a ring", RING, x -> call.on(x, 2, 2), BAD);
        refused(name + " of none in a ring", RING, x -> call.on(x, 3, 0), BAD);
    }

    /** One number of a track: all else is BAD. */
    private static void single(String name, NumberCall call) {
        numbers(name + " of three", of(feet(3)), 0, 2, call);
        numbers(name + " of seven", of(feet(7)), 0, 6, call);
        refused(name + " of none", EMPTY, x -> call.on(x, 0), BAD);
        refused(name + " in a ring", RING, x -> call.on(x, 3), BAD);
    }

    /** Refused as there is a ring, by crossings or with the wind; not by the wind's fills at wind 0. */
    private static void noughtByRings(String name, Call call) {
        found(name + " in a ring", RING, call, NOUGHT);
        found(name + " in a ring with the wind", WIND_RING, call, NOUGHT);
        answers(name + " when the wind falls", WIND_RING.then(x -> x.wind(0)), x -> call.on(x) >= 0 ? 1 : 0, 1);
        answers(name + " when the ring is snowed over", RING.then(x -> x.snow(1)), x -> call.on(x) >= 0 ? 1 : 0, 1);
    }

    private static void promise21() {
        pairs("ahead", (x, i, j) -> x.ahead(i, j));
        Scene line = of(LINE);
        tellsAlone("ahead at once", line, x -> x.ahead(5, 6), 1);
        tellsAlone("ahead, but not at once", line, x -> x.ahead(0, 2), 0);
        tellsAlone("behind", line, x -> x.ahead(1, 0), 0);
        tellsAlone("ahead in a ring", RING, x -> x.ahead(0, 1), 1);
        tellsAlone("ahead in a ring, the other way", RING, x -> x.ahead(1, 0), 1);
        Scene three = of("f09f09f00 2>1").then(x -> x.wind(1));
        answers("two ahead by the wind: the one", three, x -> x.ahead(0, 2), 1);
        answers("two ahead by the wind: the other one", three, x -> x.ahead(1, 2), 1);
        answers("one by the wind, one by a crossing", of("f0-f09f00 2>0").then(x -> x.wind(1)), x -> x.ahead(0, 2), 1);
        tellsAlone("ahead by the wind in a ring", WIND_RING, x -> x.ahead(1, 0), 1);
        answers("ahead by the sixteenth crossing", of(feet(3) + times("0>1", 15) + "2>1"), x -> x.ahead(1, 2), 1);
        answers("ahead by a crossing that is gone", of(feet(2) + "1>0").then(x -> x.snow(0)), x -> x.ahead(0, 1), 0);
    }

    private static void promise22() {
        int[] want = {1, 1, 2, 6, 24, 120, 720, 5040};
        for (int n = 0; n <= 7; n++) {
            fraction("orders of " + n, of(feet(n)), x -> x.orders(), want[n], 1);
        }
        fraction("orders of a line", of(LINE), x -> x.orders(), 1, 1);
        fraction("orders of a ring", RING, x -> x.orders(), 0, 1);
        fraction("orders of a ring of seven", of(LINE + "0>6"), x -> x.orders(), 0, 1);
        fraction("orders of a ring with the wind", WIND_RING, x -> x.orders(), 0, 1);
        fraction("orders when the wind falls", WIND_RING.then(x -> x.wind(0)), x -> x.orders(), 3, 1);
    }

    private static void promise23() {
        ends("first", of(feet(3)), 0, 5, (x, r) -> x.first(r), 1);
        rowIs("first of seven", of(feet(7)).then(x -> x.first(0)).make(), 0, 0, 1, 2, 3, 4, 5, 6);
        rowIs("first of seven backwards", of(feet(7) + "0>11>22>33>44>55>6").then(x -> x.first(5)).make(),
            5, 6, 5, 4, 3, 2, 1, 0);
        rowIs("first of none", EMPTY.then(x -> x.first(3)).make(), 3);
        rowIs("first of one", ONE.then(x -> x.first(3)).make(), 3, 0);
        rowIs("first where more stood", of(feet(2)).row(0, 9, 9, 9).then(x -> x.first(0)).make(), 0, 0, 1);
        rowIs("first where fewer stood", of(feet(2)).then(x -> x.first(4)).make(), 4, 0, 1);
        answers("first where no row is", of(feet(2)).then(x -> x.first(0)), x -> x.count(6), 3);
        asks("first tells by its row alone", of(feet(2)), x -> x.first(0), 1, 7);
        tellsAlone("first in a ring, where a row is", RING, x -> x.first(3), NONE);
        tellsAlone("first in a ring, where no row is", RING, x -> x.first(0), NONE);
        tellsAlone("first in a ring with the wind", WIND_RING, x -> x.first(3), NONE);
        tellsAlone("first in a ring of seven", of(LINE + "0>6"), x -> x.first(3), NONE);
        refused("first in a ring, no number of a row", RING, x -> x.first(-1), BAD);
    }

    private static void promise24() {
        Scene s = of(feet(3) + "0>2");
        ends("nth", s, 0, 5, (x, r) -> x.nth(0, r), 1);
        rowIs("nth, the first", s.then(x -> x.nth(0, 0)).make(), 0, 1, 2, 0);
        rowIs("nth, the next one", s.then(x -> x.nth(1, 0)).make(), 0, 2, 0, 1);
        rowIs("nth, the last one", s.then(x -> x.nth(2, 3)).make(), 3, 2, 1, 0);
        found("nth, behind the last one", s, x -> x.nth(3, 3), NOUGHT);
        found("nth, MAX", s, x -> x.nth(MAX, 3), NOUGHT);
        found("nth, behind the last one, where no row is", s, x -> x.nth(3, 0), NOUGHT);
        refused("nth, below 0", s, x -> x.nth(-1, 3), BAD);
        refused("nth, MIN", s, x -> x.nth(MIN, 3), BAD);
        refused("nth, BAD ahead of NOUGHT", s, x -> x.nth(3, 6), BAD);
        refused("nth, below 0 in a ring", RING, x -> x.nth(-1, 3), BAD);
        found("nth in a ring", RING, x -> x.nth(0, 3), NOUGHT);
        found("nth in a ring with the wind", WIND_RING, x -> x.nth(0, 3), NOUGHT);
        Scene seven = of(feet(7));
        rowIs("nth of 5040, the first", seven.then(x -> x.nth(0, 0)).make(), 0, 0, 1, 2, 3, 4, 5, 6);
        rowIs("nth of 5040, the last", seven.then(x -> x.nth(5039, 0)).make(), 0, 6, 5, 4, 3, 2, 1, 0);
        found("nth of 5040, behind the last", seven, x -> x.nth(5040, 0), NOUGHT);
        rowIs("nth of none", EMPTY.then(x -> x.nth(0, 3)).make(), 3);
        found("nth of none, behind it", EMPTY, x -> x.nth(1, 3), NOUGHT);
        rowIs("nth of one", ONE.then(x -> x.nth(0, 3)).make(), 3, 0);
        found("nth of one, behind it", ONE, x -> x.nth(1, 3), NOUGHT);
        asks("nth tells by its row alone", s, x -> x.nth(1, 0), 1, 7);
    }

    private static void promise25() {
        pairs("sure", (x, i, j) -> x.sure(i, j));
        noughtByRings("sure", x -> x.sure(0, 2));
        Scene line = of(LINE);
        tellsAlone("surely ahead, the first of the last", line, x -> x.sure(0, 6), 1);
        tellsAlone("surely behind, the last of the first", line, x -> x.sure(6, 0), 2);
        tellsAlone("surely ahead, at once", line, x -> x.sure(5, 6), 1);
        tellsAlone("either", of(feet(7) + "1>02>13>25>46>5"), x -> x.sure(3, 4), 0);
        tellsAlone("either, of two", of(feet(2)), x -> x.sure(1, 0), 0);
        tellsAlone("surely ahead by the wind", of("f02f00").then(x -> x.wind(1)), x -> x.sure(0, 1), 1);
        tellsAlone("either by the wind", of("f01f00").then(x -> x.wind(1)), x -> x.sure(0, 1), 0);
    }

    private static void promise26() {
        pairs("odds", (x, i, j) -> x.odds(i, j));
        noughtByRings("odds", x -> x.odds(0, 2));
        fraction("odds of what is sure", of(LINE), x -> x.odds(0, 6), 1, 1);
        fraction("odds of what can't be", of(LINE), x -> x.odds(6, 0), 0, 1);
        fraction("odds of either, of two", of(feet(2)), x -> x.odds(1, 0), 1, 2);
        fraction("odds of either, of seven", of(feet(7)), x -> x.odds(6, 0), 1, 2);
        fraction("odds of one and a line of six", of(feet(7) + "1>02>13>24>35>4"), x -> x.odds(6, 0), 1, 7);
        fraction("odds of a line of six and one", of(feet(7) + "1>02>13>24>35>4"), x -> x.odds(0, 6), 6, 7);
    }

    private static void promise27() {
        single("place", (x, i) -> x.place(i));
        noughtByRings("place", x -> x.place(2));
        asks("place of the only one", ONE, x -> x.place(0), 0, 0);
        asks("any place of seven", of(feet(7)), x -> x.place(6), 0, 6);
        for (int i = 0; i < 7; i++) {
            int track = i;
            asks("place " + i + " in a line", of(LINE), x -> x.place(track), i, i);
        }
        Scene v = of(feet(4) + "1>02>13>1");
        asks("the last two: the one", v, x -> x.place(2), 2, 3);
        asks("the last two: the other one", v, x -> x.place(3), 2, 3);
    }

    private static void promise28() {
        Scene s = of(feet(3) + "1>02>1");
        asks("against none", s.row(0, 0, 1, 2), x -> x.judge(0), 2, 0);
        asks("against the first", s.row(0, 1, 0, 2), x -> x.judge(0), 0, 1);
        asks("against the last", s.row(0, 0, 2, 1), x -> x.judge(0), 1, 1);
        asks("against all", s.row(0, 2, 1, 0), x -> x.judge(0), 0, 2);
        asks("no crossings", of(feet(3)).row(0, 2, 1, 0), x -> x.judge(0), 0, 0);
        asks("no tracks", EMPTY, x -> x.judge(4), 0, 0);
        asks("one track", ONE.row(0, 0), x -> x.judge(0), 0, 0);
        asks("sixteen against", of(feet(2) + times("0>1", 16)).row(0, 0, 1), x -> x.judge(0), 0, 16);
        asks("sixteen for", of(feet(2) + times("0>1", 16)).row(0, 1, 0), x -> x.judge(0), 16, 0);
        asks("the sixteenth against", of(feet(2) + times("0>1", 15) + "1>0").row(0, 1, 0), x -> x.judge(0), 15, 1);
        asks("those that do not tell", of("h0-f0-0>10>1").row(0, 0, 1), x -> x.judge(0), 2, 0);
        asks("the wind aside", of("f09f00").then(x -> x.wind(1)).row(0, 1, 0), x -> x.judge(0), 0, 0);
        asks("in a ring", RING.row(0, 0, 1, 2), x -> x.judge(0), 0, 1);
        asks("seven tracks", of(LINE).row(0, 6, 5, 4, 3, 2, 1, 0), x -> x.judge(0), 0, 6);
    }

    private static void judgedRows() {
        Scene s = of(feet(3) + "1>02>1");
        found("judge of no row", s, x -> x.judge(0), NOTHING);
        found("judge of one too few", s, x -> x.judge(3), SIZE);
        found("judge of none", s, x -> x.judge(4), SIZE);
        found("judge of one too many", s.row(0, 0, 1, 2, 0), x -> x.judge(0), SIZE);
        found("judge of forty", s.then(x -> x.row(0, 40)), x -> x.judge(0), SIZE);
        found("judge of one without tracks", EMPTY.row(0, 0), x -> x.judge(0), SIZE);
        found("judge: SIZE ahead of UNLIKE", s.row(0, 9, 9), x -> x.judge(0), SIZE);
        int[] wrong = {MIN, -1, 3, MAX, 32, 64, 32 + 2};
        for (int v : wrong) {
            found("judge of " + v + " first", s.row(0, v, 1, 2), x -> x.judge(0), UNLIKE);
            found("judge of " + v + " last", s.row(0, 0, 1, v), x -> x.judge(0), UNLIKE);
        }
        found("judge of the first twice", s.row(0, 0, 0, 1), x -> x.judge(0), UNLIKE);
        found("judge of the last twice", s.row(0, 2, 1, 2), x -> x.judge(0), UNLIKE);
        found("judge of 7 among seven", of(LINE).row(0, 0, 1, 2, 3, 4, 5, 7), x -> x.judge(0), UNLIKE);
        found("judge of UNLIKE in a ring", RING.row(0, 0, 0, 0), x -> x.judge(0), UNLIKE);
    }

    private static void promise29() {
        pairs("meet", (x, i, j) -> x.meet(i, j));
        noughtByRings("meet", x -> x.meet(0, 2));
        Scene line = of(LINE);
        tellsAlone("next to one another", line, x -> x.meet(5, 6), 1);
        tellsAlone("next to one another, the other way", line, x -> x.meet(6, 5), 1);
        tellsAlone("one between", line, x -> x.meet(0, 2), 0);
        tellsAlone("one between, the other way", line, x -> x.meet(2, 0), 0);
        tellsAlone("all between", line, x -> x.meet(0, 6), 0);
        tellsAlone("one who may be between", of(feet(3) + "1>0"), x -> x.meet(0, 1), 1);
        tellsAlone("told at once, but one between", of(feet(3) + "1>02>12>0"), x -> x.meet(0, 2), 0);
        tellsAlone("two", of(feet(2)), x -> x.meet(0, 1), 1);
    }

    private static void promise30() {
        single("chain", (x, i) -> x.chain(i));
        noughtByRings("chain", x -> x.chain(2));
        asks("the only one", ONE, x -> x.chain(0), 1, 1);
        asks("one of seven", of(feet(7)), x -> x.chain(3), 1, 1);
        for (int i = 0; i < 7; i++) {
            int track = i;
            asks("the chain of " + i + " in a line", of(LINE), x -> x.chain(track), i + 1, 7 - i);
        }
        asks("the longer way", of(feet(4) + "1>02>13>23>0"), x -> x.chain(3), 4, 1);
        asks("two ahead of one are no chain", of(feet(3) + "2>02>1"), x -> x.chain(2), 2, 1);
        asks("two behind one are no chain", of(feet(3) + "1>02>0"), x -> x.chain(0), 1, 2);
        asks("by the wind", of("f04f02f00").then(x -> x.wind(1)), x -> x.chain(2), 3, 1);
    }

    private static void promise31() {
        ends("ring", RING, 0, 5, (x, r) -> x.ring(r), 2);
        tellsAlone("no ring, where a row is", of(LINE), x -> x.ring(3), NONE);
        tellsAlone("no ring, where no row is", of(LINE), x -> x.ring(0), NONE);
        tellsAlone("no ring of none", EMPTY, x -> x.ring(3), NONE);
        tellsAlone("no ring of one", ONE, x -> x.ring(3), NONE);
        tellsAlone("no ring of two", of(feet(2) + times("0>1", 16)), x -> x.ring(3), NONE);
        refused("no number of a row", of(LINE), x -> x.ring(-1), BAD);
        rowIs("a ring of two", RING.then(x -> x.ring(3)).make(), 3, 0, 1);
        rowIs("a ring of two, the last ones", of(feet(7) + "5>66>5").then(x -> x.ring(0)).make(), 0, 5, 6);
        rowIs("a ring of seven", of(LINE + "0>6").then(x -> x.ring(5)).make(), 5, 0, 1, 2, 3, 4, 5, 6);
        rowIs("the shorter one", of(LINE + "0>64>6").then(x -> x.ring(0)).make(), 0, 4, 5, 6);
        rowIs("its least track first", of(feet(3) + "2>11>00>2").then(x -> x.ring(0)).make(), 0, 0, 1, 2);
        rowIs("its least track first, the other way", of(feet(3) + "1>22>00>1").then(x -> x.ring(0)).make(), 0, 0, 2, 1);
        rowIs("of alike ones the first", of(feet(4) + "2>33>20>11>0").then(x -> x.ring(0)).make(), 0, 0, 1);
        rowIs("of alike ones the first by its second", of(feet(3) + "2>00>21>00>1").then(x -> x.ring(0)).make(), 0, 0, 1);
        rowIs("one more ahead of the first", of(feet(4) + "1>02>10>20>3").then(x -> x.ring(0)).make(), 0, 0, 1, 2);
        rowIs("with the wind", WIND_RING.then(x -> x.ring(0)).make(), 0, 0, 1);
        tellsAlone("when the wind falls", WIND_RING.then(x -> x.wind(0)), x -> x.ring(3), NONE);
        asks("ring tells by its row alone", RING, x -> x.ring(0), 2, 7);
        rowIs("where more stood", RING.row(0, 9, 9, 9).then(x -> x.ring(0)).make(), 0, 0, 1);
    }

    private static void promise32() {
        asks("none wrong of none", EMPTY, x -> x.wrong(), 0, 0);
        asks("none wrong in a line", of(LINE), x -> x.wrong(), 0, 0);
        asks("one wrong: the least", RING, x -> x.wrong(), 1, 1);
        asks("one wrong of three: the least", of(feet(3) + "1>02>10>2"), x -> x.wrong(), 1, 1);
        asks("the fewest, not the least", of(feet(2) + "0>10>11>0"), x -> x.wrong(), 1, 4);
        asks("eight of sixteen", of(feet(2) + times("0>11>0", 8)), x -> x.wrong(), 8, 0x5555);
        asks("eight of sixteen: the least", of(feet(2) + times("1>0", 8) + times("0>1", 8)), x -> x.wrong(), 8, 255);
        asks("the last of sixteen", of(feet(2) + times("0>1", 15) + "1>0"), x -> x.wrong(), 1, 1 << 15);
        asks("all sixteen, against the wind", of("f00f02" + times("1>0", 16)).then(x -> x.wind(1)), x -> x.wrong(), 16, 65535);
        asks("the wind by one is none", of("f00f01" + times("1>0", 16)).then(x -> x.wind(1)), x -> x.wrong(), 0, 0);
        asks("those that do not tell are not wrong", of("f0-h0-0>11>0"), x -> x.wrong(), 0, 0);
        asks("those that do not tell have no bits", of("f0-h0-f0- 1>00>22>0"), x -> x.wrong(), 1, 2);
        asks("two rings of their own", of(feet(4) + "0>11>02>33>2"), x -> x.wrong(), 2, 5);
        asks("wrong again", RING.then(x -> x.wrong()), x -> x.wrong(), 1, 1);
        asks("wrong when the ring is gone", RING.then(x -> x.wrong()).then(x -> x.snow(1)), x -> x.wrong(), 0, 0);
        answers("wrong changes nothing", RING.then(x -> x.wrong()), x -> x.count(2), 2);
    }

    private static void promise33() {
        asks("none twice of none", EMPTY, x -> x.twice(), 0, 0);
        asks("none twice in a line", of(LINE), x -> x.twice(), 0, 0);
        asks("one twice: the least", RING, x -> x.twice(), 1, 1);
        asks("one twice: the one in both", of(feet(3) + "0>22>01>22>1"), x -> x.twice(), 1, 4);
        asks("the last of seven", of(feet(7) + "6>55>66>44>6"), x -> x.twice(), 1, 64);
        asks("three of seven: the least", of(feet(7) + "0>11>02>33>24>55>4"), x -> x.twice(), 3, 21);
        asks("two of three, each with each", of(feet(3) + "0>11>00>22>01>22>1"), x -> x.twice(), 2, 3);
        asks("by the wind neither", WIND_RING, x -> x.twice(), 1, 1);
        asks("when the wind falls", WIND_RING.then(x -> x.wind(0)), x -> x.twice(), 0, 0);
        asks("three of four, each with each", of(feet(4) + "0>11>00>22>00>33>01>22>11>33>12>33>2"), x -> x.twice(), 3, 7);
        asks("twice when the ring is gone", RING.then(x -> x.twice()).then(x -> x.snow(1)), x -> x.twice(), 0, 0);
        asks("twice changes nothing", RING.then(x -> x.twice()), x -> x.track(0, 0), 1, 0);
    }

    private static void promise34() {
        noughtByRings("look", x -> x.look());
        tellsAlone("look of none", EMPTY, x -> x.look(), NONE);
        tellsAlone("look of one", ONE, x -> x.look(), NONE);
        tellsAlone("look when all is sure", of(LINE), x -> x.look(), NONE);
        tellsAlone("look when all is sure by the wind", of("f00f02").then(x -> x.wind(1)), x -> x.look(), NONE);
        asks("look of two", of(feet(2)), x -> x.look(), 1, 1);
        asks("look of seven: the first", of(feet(7)), x -> x.look(), 1, 2520);
        asks("the last two", of(LINE).then(x -> x.snow(5)).then(x -> x.cross(5, 4)).then(x -> x.cross(6, 4)),
            x -> x.look(), 56, 1);
        asks("not the first, but fewer", of(feet(4) + "1>02>1"), x -> x.look(), 13, 2);
        asks("none that is sure", of(feet(3) + "1>0"), x -> x.look(), 2, 2);
    }

    private static void promise35() {
        pairs("hide", (x, i, j) -> x.hide(i, j));
        tellsAlone("none to tread out", of(feet(2)), x -> x.hide(0, 1), 0);
        tellsAlone("one to tread out", of(feet(2) + "1>0"), x -> x.hide(0, 1), 1);
        tellsAlone("the other way", of(feet(2) + "1>0"), x -> x.hide(1, 0), 0);
        tellsAlone("sixteen", of(feet(2) + times("1>0", 16)), x -> x.hide(0, 1), 16);
        tellsAlone("fifteen", of(feet(2) + times("1>0", 15)), x -> x.hide(0, 1), 15);
        tellsAlone("one in a line", of(LINE), x -> x.hide(0, 6), 1);
        tellsAlone("one, then two", of(feet(3) + "1>02>12>1"), x -> x.hide(0, 2), 1);
        tellsAlone("two, then one", of(feet(3) + "1>01>02>1"), x -> x.hide(0, 2), 1);
        tellsAlone("two ways", of(feet(4) + "1>02>03>13>2"), x -> x.hide(0, 3), 2);
        tellsAlone("those that do not tell", of("f0-h0-" + times("1>0", 16)), x -> x.hide(0, 1), 0);
        tellsAlone("the wind aside", of("f09f00").then(x -> x.wind(1)), x -> x.hide(0, 1), 0);
        tellsAlone("one beside the wind", of("f09f00 1>0").then(x -> x.wind(1)), x -> x.hide(0, 1), 1);
        tellsAlone("a ring with the wind alone is none", WIND_RING, x -> x.hide(0, 1), 1);
        found("hide in a ring", RING, x -> x.hide(0, 2), NOUGHT);
        found("hide in a ring, by any wind", RING.then(x -> x.wind(1)), x -> x.hide(0, 1), NOUGHT);
        found("hide in a ring of seven", of(LINE + "0>6"), x -> x.hide(0, 6), NOUGHT);
    }

    private static void promise36() {
        asks("no people", EMPTY, x -> x.people(), 0, 0);
        asks("one", ONE, x -> x.people(), 1, 1);
        asks("one of seven tracks", of(feet(7)), x -> x.people(), 1, 7);
        asks("two, by six crossings", of(feet(7) + "0>10>20>30>40>50>6"), x -> x.people(), 2, 1);
        asks("five by their sizes", of("f00f20f40f60f80"), x -> x.people(), 5, 1);
        asks("six, each with each but one pair", of(feet(6) + "0>10>20>30>41>21>31>42>32>43>40>51>52>53>5"),
            x -> x.people(), 5, 1);
        asks("seven people, by sizes and crossings", of("f00f00f20f40f60f80f80 0>15>6"), x -> x.people(), 7, 1);
    }

    private static void peopleApart() {
        asks("of one size", of("f50f50"), x -> x.people(), 1, 2);
        asks("sizes 1 apart", of("f50f60"), x -> x.people(), 1, 2);
        asks("sizes 1 apart, the other way", of("f60f50"), x -> x.people(), 1, 2);
        asks("sizes 2 apart", of("f50f70"), x -> x.people(), 2, 1);
        asks("sizes 2 apart, the other way", of("f70f50"), x -> x.people(), 2, 1);
        asks("sizes 0 and 9", of("f00f90"), x -> x.people(), 2, 1);
        asks("2 apart by way of a third", of("f50f60f70"), x -> x.people(), 2, 2);
        asks("who cross", of("f50f50 0>1"), x -> x.people(), 2, 1);
        asks("who cross, the other way", of("f50f50 1>0"), x -> x.people(), 2, 1);
        asks("who cross without telling", of("w50h50 1>0"), x -> x.people(), 2, 1);
        asks("who cross now", of("f50f50").then(x -> x.people()).then(x -> x.cross(0, 1)), x -> x.people(), 2, 1);
        asks("who no longer cross", of("f50f50 0>1").then(x -> x.snow(0)), x -> x.people(), 1, 2);
        asks("others that cross", of(feet(3) + "1>2"), x -> x.people(), 2, 2);
        asks("in a ring", RING, x -> x.people(), 2, 2);
    }
}

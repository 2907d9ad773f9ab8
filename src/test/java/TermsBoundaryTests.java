/** The boundary cases of "Terms" and of the sections 1 (rows, texts, the language), 2 (odds), 3 (lots). */
public final class TermsBoundaryTests extends Checks {
    private static final String LETTERS = "fhewcv";
    private static final String FULL_PASS = feet(7) + times("0>1", 16);

    private TermsBoundaryTests() {
    }

    public static void main(String[] args) {
        badIsFirst();
        fullIsBehindBad();
        stateIsBehindBad();
        stateIsAheadOfFindings();
        spentIsNeverAnswered();
        nothingIsFound();
        beyondIsFound();
        unlikeIsFound();
        noughtIsFound();
        sizeIsFound();
        fractionsAreInLowestTerms();
        noughtIsToldByOne();
        setsAreToldByBits();
        numbersOfRows();
        numbersOfTexts();
        sizesOfRowsAndTexts();
        missingAtFirst();
        blanks();
        letters();
        sizes();
        fills();
        tracksOver();
        overSigns();
        tracksBeneath();
        endsWithinItems();
        sevenTracks();
        sixteenCrossings();
        tracksBehindCrossings();
        theFirstFault();
        kindsTell();
        windTellsByTwo();
        windOfUnseen();
        windOfTwice();
        windOfOtherKinds();
        ordersAndRings();
        oddsAreAlike();
        lots();
        finish();
    }

    // ---- Terms: "the first of these that fits, in this order"

    private static void badIsFirst() {
        Scene ring = of("f0-f0-0>11>0");
        Scene empty = of("");
        refused("BAD ahead of SIZE: row", ring, x -> x.row(6, -1), BAD);
        refused("BAD ahead of SIZE: text", ring, x -> x.text(4, -1), BAD);
        refused("BAD ahead of SIZE: copy", ring, x -> x.copy(3, 0, 6, 0, -1), BAD);
        refused("BAD ahead of NOTHING: copy", ring, x -> x.copy(0, 0, 6, 0, 1), BAD);
        refused("BAD ahead of UNLIKE: mark", ring, x -> x.mark(0, 6), BAD);
        refused("BAD ahead of NOUGHT: nth", ring, x -> x.nth(0, 6), BAD);
        refused("BAD ahead of NOUGHT: sure", ring, x -> x.sure(0, 0), BAD);
        refused("BAD ahead of NOUGHT: odds", ring, x -> x.odds(1, 1), BAD);
        refused("BAD ahead of NOUGHT: place", ring, x -> x.place(2), BAD);
        refused("BAD ahead of NOUGHT: meet", ring, x -> x.meet(0, 0), BAD);
        refused("BAD ahead of NOUGHT: chain", ring, x -> x.chain(2), BAD);
        refused("BAD ahead of NOUGHT: hide", ring, x -> x.hide(1, 1), BAD);
        refused("BAD ahead of NONE: first", ring, x -> x.first(6), BAD);
        refused("BAD ahead of NONE: ring", of(feet(2)), x -> x.ring(6), BAD);
        refused("BAD ahead of NOTHING: on", empty, x -> x.on(3), BAD);
    }

    private static void fullIsBehindBad() {
        Scene full = of(FULL_PASS);
        refused("FULL", full, x -> x.cross(0, 1), FULL);
        refused("BAD ahead of FULL: itself", full, x -> x.cross(1, 1), BAD);
        refused("BAD ahead of FULL: no track", full, x -> x.cross(0, 7), BAD);
        refused("BAD ahead of FULL: below 0", full, x -> x.cross(-1, 0), BAD);
    }

    private static void stateIsBehindBad() {
        Scene empty = of("");
        refused("STATE: keep", empty, x -> x.keep(2), STATE);
        refused("BAD ahead of STATE: keep", empty, x -> x.keep(3), BAD);
        refused("STATE: pass", empty, x -> x.pass(3), STATE);
        refused("BAD ahead of STATE: pass", empty, x -> x.pass(4), BAD);
        refused("STATE: walks", empty, x -> x.walks(4, 1, 1), STATE);
        refused("BAD ahead of STATE: walks, the row", empty, x -> x.walks(6, 1, 1), BAD);
        refused("BAD ahead of STATE: walks, how often", empty, x -> x.walks(4, 0, 1), BAD);
        refused("BAD ahead of STATE: walks, the seed", empty, x -> x.walks(4, 1, 0), BAD);
    }

    private static void stateIsAheadOfFindings() {
        Scene one = of("f0-").row(0, 4);
        refused("STATE ahead of NOTHING: walks", one, x -> x.walks(1, 1, 1), STATE);
        refused("STATE ahead of SIZE: walks", one, x -> x.walks(3, 1, 1), STATE);
        refused("STATE ahead of UNLIKE: walks", one, x -> x.walks(0, 1, 1), STATE);
    }

    /** No promise names SPENT: a hundred findings of each kind bring none. */
    private static void spentIsNeverAnswered() {
        SnowTracks x = bare("f0-f0-0>11>0");
        for (int i = 1; i <= 60; i++) {
            due("NOTHING, again", x.tear(0), FINDING);
            due("BEYOND, again", x.crossing(2), FINDING);
            due("UNLIKE, again", x.mark(0, 1), FINDING);
            due("NOUGHT, again", x.look(), FINDING);
            due("SIZE, again", x.row(0, -1), FINDING);
        }
        for (int f = NOTHING; f <= SIZE; f++) {
            due("findings(" + f + ") behind sixty", x.findings(f), 60);
        }
        due("SPENT", SnowTracks.SPENT, SPENT);
    }

    // ---- Terms: the findings

    private static void nothingIsFound() {
        Scene s = of("f0-f0-");
        found("NOTHING: a row", s, x -> x.at(0, 0), NOTHING);
        found("NOTHING: a text", s, x -> x.put(2, 0, 1), NOTHING);
        found("NOTHING: a kept pass", s, x -> x.on(1), NOTHING);
    }

    private static void beyondIsFound() {
        Scene s = of("f0-f0-0>1");
        found("BEYOND: a row's place", s, x -> x.at(3, 2), BEYOND);
        found("BEYOND: a text's place", s, x -> x.put(3, 2, 1), BEYOND);
        found("BEYOND: a crossing", s, x -> x.crossing(1), BEYOND);
        found("BEYOND: places of a row", s, x -> x.copy(3, 1, 3, 0, 2), BEYOND);
    }

    private static void unlikeIsFound() {
        Scene s = of("f0-f0-").row(0, 0, 2).row(1, 2);
        found("UNLIKE: a track of another kind", s, x -> x.mark(0, 1), UNLIKE);
        found("UNLIKE: a number that is none", s, x -> x.judge(0), UNLIKE);
        found("UNLIKE: a claim that is none", s, x -> x.story(1), UNLIKE);
    }

    private static void noughtIsFound() {
        Scene s = of("f0-f0-0>11>0");
        found("NOUGHT: shared among none", s, x -> x.mean(4), NOUGHT);
        found("NOUGHT: a ring", s, x -> x.sure(0, 1), NOUGHT);
        found("NOUGHT: no order", s, x -> x.nth(0, 0), NOUGHT);
    }

    private static void sizeIsFound() {
        Scene s = of("f0-f0-").row(0, 0).row(1, 1, 1, 1, 1, 1, 1, 1, 1, 1);
        found("SIZE: fewer than none, a row", s, x -> x.row(0, -1), SIZE);
        found("SIZE: fewer than none, a text", s, x -> x.text(0, -1), SIZE);
        found("SIZE: fewer than none, places", s, x -> x.copy(3, 0, 3, 0, -1), SIZE);
        found("SIZE: not as many as due", s, x -> x.judge(0), SIZE);
        found("SIZE: more than due", s, x -> x.story(1), SIZE);
    }

    // ---- Terms: fractions, sets

    private static void fractionsAreInLowestTerms() {
        Scene chain = of(feet(4) + "1>02>1");
        fraction("2 of 4", chain, x -> x.odds(1, 3), 1, 2);
        fraction("3 of 4", chain, x -> x.odds(0, 3), 3, 4);
        fraction("4 of 4", chain, x -> x.odds(0, 2), 1, 1);
        fraction("all of none claimed", of(feet(7)), x -> x.believe(4), 1, 1);
        fraction("the fewest of 5040", of(feet(7)).row(0, 1, 12, 23, 34, 45, 56), x -> x.believe(0), 1, 5040);
        fraction("orders by one", of(feet(7)), x -> x.orders(), 5040, 1);
    }

    private static void noughtIsToldByOne() {
        fraction("0 of 4", of(feet(4) + "1>02>1"), x -> x.odds(2, 0), 0, 1);
        fraction("0 of 24", of(feet(4)).row(0, 1, 10), x -> x.believe(0), 0, 1);
        fraction("no orders", of("f0-f0-0>11>0"), x -> x.orders(), 0, 1);
    }

    private static void setsAreToldByBits() {
        asks("bit 0 of crossings", of(feet(2) + "0>11>0"), x -> x.wrong(), 1, 1);
        asks("bit 15 of crossings", of(feet(2) + times("0>1", 15) + "1>0"), x -> x.wrong(), 1, 1 << 15);
        asks("all bits but 15 of crossings", of("f00f09" + times("1>0", 15) + "0>1").then(x -> x.wind(1)),
            x -> x.wrong(), 15, (1 << 15) - 1);
        asks("bit 0 of tracks", of(feet(7) + "0>66>0"), x -> x.twice(), 1, 1);
        asks("bit 6 of tracks", of(feet(7) + "0>66>05>66>5"), x -> x.twice(), 1, 1 << 6);
        asks("bit 0 of claims", of(feet(2)).row(0, 1, 10), x -> x.hold(0), 1, 1);
        asks("bit 7 of claims", of(feet(2) + "0>1").row(0, 1, 1, 1, 1, 1, 1, 1, 10), x -> x.hold(0), 1, 1 << 7);
        asks("all bits of claims", of(feet(2)).row(0, 1, 1, 1, 1, 1, 1, 1, 1), x -> x.hold(0), 8, 255);
    }

    // ---- 1: rows 0 .. 5, texts 0 .. 3

    private static void numbersOfRows() {
        Scene s = of("f0-f0-");
        numbers("row", s, 0, 5, (x, r) -> x.row(r, 1));
        numbers("lay", s, 0, 5, (x, r) -> x.lay(r, 0, 1));
        numbers("at", s, 0, 5, (x, r) -> x.at(r, 0));
        numbers("tear", s, 0, 5, (x, r) -> x.tear(r));
        numbers("copy from", s, 0, 5, (x, r) -> x.copy(r, 0, 3, 0, 1));
        numbers("copy to", s, 0, 5, (x, r) -> x.copy(3, 0, r, 0, 1));
        numbers("mean", s, 0, 5, (x, r) -> x.mean(r));
        numbers("first", s, 0, 5, (x, r) -> x.first(r));
        numbers("nth", s, 0, 5, (x, r) -> x.nth(0, r));
        numbers("judge", s, 0, 5, (x, r) -> x.judge(r));
        numbers("ring", s.then(x -> x.cross(0, 1)).then(x -> x.cross(1, 0)), 0, 5, (x, r) -> x.ring(r));
        numbers("story", s, 0, 5, (x, r) -> x.story(r));
        numbers("hold", s, 0, 5, (x, r) -> x.hold(r));
        numbers("believe", s, 0, 5, (x, r) -> x.believe(r));
        numbers("walks", s, 0, 5, (x, r) -> x.walks(r, 1, 1));
    }

    private static void numbersOfTexts() {
        Scene s = of("f0-f0-");
        numbers("text", s, 0, 3, (x, t) -> x.text(t, 1));
        numbers("put", s, 0, 3, (x, t) -> x.put(t, 0, 1));
        numbers("fault", s, 0, 3, (x, t) -> x.fault(t));
        numbers("pass", s, 0, 3, (x, t) -> x.pass(t));
    }

    private static void sizesOfRowsAndTexts() {
        SnowTracks x = new SnowTracks();
        for (int r = 0; r < 6; r++) {
            due("a row of none", x.row(r, 0), 0);
            due("a row of forty", x.row(r, 40), 40);
            due("its last place", x.lay(r, 39, r), 1);
            due("behind it", x.lay(r, 40, 9), FINDING);
        }
        for (int t = 0; t < 4; t++) {
            due("a text of none", x.text(t, 0), 0);
            due("a text of eighty", x.text(t, 80), 80);
            due("its last place", x.put(t, 79, 65 + t), 1032);
            due("behind it", x.put(t, 80, 9), FINDING);
        }
        for (int r = 0; r < 6; r++) {
            x.at(r, 39);
            due("rows are not one another", x.asked(), r);
        }
        for (int t = 0; t < 4; t++) {
            due("texts are not one another", x.put(t, 79, 32), 1065 + t);
        }
        refused("a row of 41", () -> new SnowTracks(), y -> y.row(0, 41), BAD);
        refused("a text of 81", () -> new SnowTracks(), y -> y.text(0, 81), BAD);
    }

    private static void missingAtFirst() {
        Scene none = () -> new SnowTracks();
        for (int r = 0; r < 6; r++) {
            int row = r;
            found("row " + r + " at first", none, x -> x.at(row, 0), NOTHING);
        }
        for (int t = 0; t < 4; t++) {
            int text = t;
            found("text " + t + " at first", none, x -> x.fault(text), NOTHING);
        }
        answers("tracks at first", none, x -> x.count(0), 0);
    }

    // ---- 1: the language of a pass

    /** The fault of a text, and that a pass by it is refused just then. */
    private static void faultIs(String name, int want, int... bytes) {
        Scene s = of("f12f34e560>11>0").then(x -> {
            x.text(2, bytes.length);
            for (int i = 0; i < bytes.length; i++) {
                x.put(2, i, bytes[i]);
            }
            return 0;
        });
        tellsAlone(name + ": fault", s, x -> x.fault(2), want);
        if (want != NONE) {
            refused(name + ": pass", s, x -> x.pass(2), STATE);
        } else {
            answers(name + ": pass", s, x -> x.pass(2) >= 0 ? 1 : 0, 1);
        }
    }

    private static void faultIs(int want, String signs) {
        int[] bytes = new int[signs.length()];
        for (int i = 0; i < bytes.length; i++) {
            bytes[i] = signs.charAt(i);
        }
        faultIs("\"" + signs + "\"", want, bytes);
    }

    /** Each byte at a place of a text: which of them let it go on (the others are its fault). */
    private static void onlyThese(String name, String signs, int place, String fitting) {
        SnowTracks x = new SnowTracks();
        write(x, 0, signs);
        for (int v = -128; v <= 127; v++) {
            x.put(0, place, v);
            boolean fits = v >= 0 && fitting.indexOf((char) v) >= 0;
            due(name + ": byte " + v, x.fault(0) == place ? 0 : 1, fits ? 1 : 0);
            if (v == 0) {
                x = new SnowTracks();
                write(x, 0, signs);
            }
        }
    }

    private static void blanks() {
        faultIs(NONE, "");
        faultIs(NONE, " ");
        faultIs(NONE, " ".repeat(80));
        faultIs(NONE, "f00");
        faultIs(NONE, " f00");
        faultIs(NONE, "f00 ");
        faultIs(NONE, "f00f00");
        faultIs(NONE, "f00 f00");
        faultIs(NONE, "f00   f00");
        faultIs(NONE, "f00f000>11>0");
        faultIs(NONE, "  f00  f00  0>1  1>0  ");
        faultIs(1, "f 00");
        faultIs(2, "f0 0");
        faultIs(7, "f00f000 >1");
        faultIs(8, "f00f000> 1");
        faultIs(3, "f00\tf00");
        faultIs(NONE, " ".repeat(77) + "f00");
    }

    private static void letters() {
        onlyThese("a letter or a blank", "x00", 0, LETTERS + " ");
        onlyThese("a letter, a figure of a track or a blank", "f00f00x00", 6, LETTERS + "01 ");
        for (int kind = 0; kind < 6; kind++) {
            String signs = LETTERS.charAt(kind) + "00";
            asks("the kind of " + signs, of(signs), x -> x.track(0, 0), 1, kind);
        }
    }

    private static void sizes() {
        onlyThese("a size", "f00", 1, "0123456789");
        asks("the size 0", of("f00"), x -> x.track(0, 1), 1, 0);
        asks("the size 9", of("f90"), x -> x.track(0, 1), 1, 9);
        faultIs(4, "f0000");
    }

    private static void fills() {
        onlyThese("a fill", "f00", 2, "0123456789-");
        asks("the fill 0", of("f90"), x -> x.track(0, 2), 1, 0);
        asks("the fill 9", of("f09"), x -> x.track(0, 2), 1, 9);
        asks("the fill -", of("f0-"), x -> x.track(0, 2), 1, NONE);
    }

    private static void tracksOver() {
        onlyThese("no track, who lies over", "x>1", 0, LETTERS + " ");
        onlyThese("one track, who lies over", "f00x>1", 3, LETTERS + "0 ");
        onlyThese("two tracks behind a crossing", "f00f000>1x>1", 9, "01 ");
        onlyThese("seven tracks, who lies over", feet(7) + "x>1", 21, "0123456 ");
    }

    private static void overSigns() {
        onlyThese("the sign of lying over", "f00f001x0", 7, ">");
    }

    private static void tracksBeneath() {
        onlyThese("another one beneath 0", "f00f00f000>x", 11, "12");
        onlyThese("another one beneath 1", "f00f00f001>x", 11, "02");
        onlyThese("another one beneath 2", "f00f00f002>x", 11, "01");
        onlyThese("seven tracks, who lies beneath", feet(7) + "6>x", 23, "012345");
        onlyThese("one track, none beneath", "f000>x", 5, "");
        answers("10 times the one over, and the one beneath", of(feet(7) + "6>5"), x -> x.crossing(0), 65);
    }

    private static void endsWithinItems() {
        faultIs(1, "f");
        faultIs(2, "f0");
        faultIs(7, "f00f000");
        faultIs(8, "f00f000>");
        faultIs(80, " ".repeat(79) + "f");
        faultIs(80, " ".repeat(78) + "f0");
        faultIs(80, "f00f00" + " ".repeat(73) + "0");
        faultIs(80, "f00f00" + " ".repeat(72) + "0>");
    }

    private static void sevenTracks() {
        faultIs(NONE, times("f00", 6));
        faultIs(NONE, times("f00", 7));
        faultIs(21, times("f00", 8));
        faultIs(24, times("f00", 7) + "   f00");
        faultIs(21, times("f00", 7) + "f");
        answers("six tracks", of(times("f00", 6)), x -> x.pass(0), 6);
        answers("seven tracks", of(times("f00", 7)), x -> x.pass(0), 7);
    }

    private static void sixteenCrossings() {
        String two = "f00f00";
        faultIs(NONE, two + times("0>1", 15));
        faultIs(NONE, two + times("0>1", 16));
        faultIs(54, two + times("0>1", 17));
        faultIs(56, two + times("0>1", 16) + "  0>1");
        faultIs(54, two + times("0>1", 16) + "0");
        answers("fifteen crossings", of(two + times("0>1", 15)), x -> x.count(1), 15);
        answers("sixteen crossings", of(two + times("0>1", 16)), x -> x.count(1), 16);
        answers("seven tracks, sixteen crossings", of(FULL_PASS + " ".repeat(11)), x -> x.count(0) * 100 + x.count(1), 716);
    }

    private static void tracksBehindCrossings() {
        for (int kind = 0; kind < 6; kind++) {
            faultIs(9, "f00f000>1" + LETTERS.charAt(kind) + "00");
        }
        faultIs(11, "f00f000>1  f00");
        faultIs(54, "f00f00" + times("0>1", 16) + "f00");
    }

    private static void theFirstFault() {
        faultIs(0, "xyz");
        faultIs(1, "fxx");
        faultIs(4, "f00fxx0>0");
        faultIs(6, "f00f002>2");
        faultIs(8, "f00f001>1 x");
        faultIs("a byte below 0", 3, 'f', '0', '0', -1, 'x');
        faultIs("a byte cut to a letter", NONE, 'f' + 256, '0' - 256, '-' + 512);
    }

    // ---- 1: what tells

    /** Every kind over every kind, and the other way about. */
    private static void kindsTell() {
        String[] want = {"110010", "000000", "110010", "000000", "001001", "100000"};
        for (int over = 0; over < 6; over++) {
            for (int beneath = 0; beneath < 6; beneath++) {
                String name = LETTERS.charAt(over) + " over " + LETTERS.charAt(beneath);
                int tells = want[over].charAt(beneath) - '0';
                Scene s = of(LETTERS.charAt(over) + "00" + LETTERS.charAt(beneath) + "00 0>1");
                asks(name, s, x -> x.crossing(0), 1, tells);
                answers(name + ": who went ahead", s, x -> x.ahead(1, 0), tells);
                answers(name + ": never the one over", s, x -> x.ahead(0, 1), 0);
                answers(name + ": how many tell", s, x -> x.count(2), tells);
            }
        }
    }

    private static Scene windy(String signs) {
        return of(signs).then(x -> x.wind(1));
    }

    private static void windTellsByTwo() {
        for (int a = 0; a <= 9; a++) {
            for (int b = 0; b <= 9; b++) {
                String signs = "f0" + a + "f0" + b;
                answers("wind: " + signs, windy(signs), x -> x.ahead(0, 1), a - b >= 2 ? 1 : 0);
            }
        }
        answers("no wind", of("f09f00"), x -> x.ahead(0, 1), 0);
    }

    private static void windOfUnseen() {
        answers("unseen over 0", windy("f0-f00"), x -> x.ahead(0, 1), 0);
        answers("9 over unseen", windy("f09f0-"), x -> x.ahead(0, 1), 0);
        answers("unseen both", windy("f0-f0-"), x -> x.ahead(0, 1), 0);
    }

    private static void windOfTwice() {
        answers("a twice one ahead", windy("w09f00"), x -> x.ahead(0, 1), 0);
        answers("a twice one behind", windy("f09w00"), x -> x.ahead(0, 1), 0);
        answers("twice ones both", windy("w09w00"), x -> x.ahead(0, 1), 0);
    }

    private static void windOfOtherKinds() {
        for (char one : "fhecv".toCharArray()) {
            for (char other : "fhecv".toCharArray()) {
                answers("wind: " + one + " ahead of " + other, windy(one + "02" + other + "00"), x -> x.ahead(0, 1), 1);
            }
        }
    }

    private static void ordersAndRings() {
        Scene line = of(feet(3) + "1>02>1");
        answers("a line is no ring", line, x -> x.ring(0), NONE);
        answers("the ring of three", line.then(x -> x.cross(0, 2)), x -> x.ring(0), 3);
        answers("the ring of two", line.then(x -> x.cross(0, 1)), x -> x.ring(0), 2);
        answers("a crossing that does not tell closes no ring", of("f0-h0-0>11>0"), x -> x.ring(0), NONE);
    }

    // ---- 2, 3

    private static void oddsAreAlike() {
        fraction("one of two", of(feet(2)), x -> x.odds(0, 1), 1, 2);
        fraction("all of the one order", of(feet(2) + "1>0"), x -> x.odds(0, 1), 1, 1);
        fraction("two of three orders", of(feet(3) + "1>0"), x -> x.odds(0, 2), 2, 3);
    }

    /** The crossings that a walk by a seed's first lot brings (an order of the numbers themselves). */
    private static void lotIs(int seed, int tracks) {
        long lot = 48271L * seed % 2147483647L;
        int one = (int) (lot % tracks);
        int other = (int) (lot / 64 % tracks);
        Scene s = of(feet(tracks)).then(x -> x.first(0));
        String name = "the lot of " + seed + " among " + tracks;
        answers(name, s, x -> x.walks(0, 1, seed), one == other ? 0 : 1);
        if (one != other) {
            answers(name + ": who lies over", s.then(x -> x.walks(0, 1, seed)), x -> x.crossing(0),
                10 * Math.max(one, other) + Math.min(one, other));
        }
    }

    private static void lots() {
        for (int tracks = 2; tracks <= 7; tracks++) {
            for (int seed : new int[] {1, 2, 3, 77, 44488, 44489, 2147483645, 2147483646}) {
                lotIs(seed, tracks);
            }
        }
        Scene s = of(feet(2)).row(0, 0, 1);
        for (int seed : new int[] {MIN, -1, 0, MAX}) {
            refused("the seed " + seed, s, x -> x.walks(0, 1, seed), BAD);
        }
    }
}

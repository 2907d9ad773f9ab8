import java.util.ArrayList;
import java.util.List;
import java.util.Random;

/**
 * Long runs of calls by lots, each answered by the program and by a slow model beside it that goes
 * through all orders, all sets of crossings, tracks, claims and all ways to share tracks out.
 */
public final class ModelTests {
    private static final int RUNS = 1500, CALLS = 512;
    private static final int METHODS = 47;

    private static int passed = 0;
    private static int failed = 0;
    private static final StringBuilder log = new StringBuilder();

    public static void main(String[] args) {
        for (int run = 0; run < RUNS && failed < 5; run++) {
            log.setLength(0);
            oneRun(run);
        }
        System.out.println(passed + " passed, " + failed + " failed");
        if (failed != 0) {
            System.exit(1);
        }
    }

    private static void oneRun(int run) {
        Random lots = new Random(run);
        SnowTracks x = new SnowTracks();
        Model m = new Model();
        int calls = writePass(x, m, lots, run);
        while (calls < CALLS && failed < 5) {
            if (lots.nextInt(40) == 0 && calls + 90 < CALLS) {
                calls += writePass(x, m, lots, run);
            }
            calls += oneCall(x, m, lots, run);
        }
    }

    private static void compare(int run, String call, long got, long want) {
        log.append(call).append(' ');
        if (got == want) {
            passed++;
        } else {
            failed++;
            System.out.println("run " + run + ": " + call + " answered " + got + ", due is " + want);
            System.out.println("  behind: " + log);
        }
    }

    private static int writePass(SnowTracks x, Model m, Random lots, int run) {
        String signs = passSigns(lots);
        int t = lots.nextInt(4);
        compare(run, "text(" + t + "," + signs.length() + ")", x.text(t, signs.length()), m.text(t, signs.length()));
        for (int i = 0; i < signs.length(); i++) {
            int v = signs.charAt(i);
            compare(run, "put(" + t + "," + i + "," + v + ")", x.put(t, i, v), m.put(t, i, v));
        }
        compare(run, "fault(" + t + ")", x.fault(t), m.fault(t));
        compare(run, "pass(" + t + ")", x.pass(t), m.pass(t));
        return signs.length() + 3;
    }

    private static String passSigns(Random lots) {
        StringBuilder b = new StringBuilder();
        int tracks = lots.nextInt(5) == 0 ? lots.nextInt(9) : 3 + lots.nextInt(5);
        String letters = lots.nextInt(2) == 0 ? "f" : lots.nextInt(2) == 0 ? "fffcvehw" : "fhewcv";
        for (int i = 0; i < tracks; i++) {
            b.append(blanks(lots));
            b.append(letters.charAt(lots.nextInt(letters.length())));
            b.append((char) ('3' + lots.nextInt(4)));
            b.append(lots.nextInt(4) == 0 ? '-' : (char) ('0' + lots.nextInt(6)));
        }
        int crossings = lots.nextInt(6) == 0 ? lots.nextInt(19) : lots.nextInt(9);
        boolean ringless = lots.nextInt(2) == 0;
        for (int k = 0; k < crossings && tracks > 1; k++) {
            int i = lots.nextInt(Math.min(tracks, 7));
            int j = lots.nextInt(Math.min(tracks, 7));
            if (i == j && lots.nextInt(30) != 0) {
                continue;
            }
            b.append(blanks(lots)).append(ringless ? Math.max(i, j) : i).append('>');
            b.append(ringless ? Math.min(i, j) : j);
        }
        if (lots.nextInt(4) == 0 && b.length() > 0) {
            String signs = "fhewcvxF0123456789>-  <\n\u00e9";
            b.setCharAt(lots.nextInt(b.length()), signs.charAt(lots.nextInt(signs.length())));
        }
        if (lots.nextInt(10) == 0 && b.length() > 0) {
            b.setLength(lots.nextInt(b.length()));
        }
        b.setLength(Math.min(b.length(), 80));
        return b.toString();
    }

    private static String blanks(Random lots) {
        return lots.nextInt(3) == 0 ? "" : lots.nextInt(8) == 0 ? "  " : " ";
    }

    /** A number that mostly is one (below n), at times just beside, at times far off. */
    private static int near(Random lots, int n) {
        int what = lots.nextInt(40);
        if (what == 0) {
            return -1;
        }
        if (what == 1) {
            return n;
        }
        if (what == 2) {
            int[] far = {Integer.MIN_VALUE, Integer.MAX_VALUE, -9, 1000, 128, n + 1};
            return far[lots.nextInt(far.length)];
        }
        return lots.nextInt(Math.max(n, 1));
    }

    private static int oneCall(SnowTracks x, Model m, Random lots, int run) {
        int tracks = m.tracks.size();
        int r = near(lots, 6);
        int i = near(lots, tracks);
        int j = near(lots, tracks);
        switch (lots.nextInt(METHODS)) {
            case 0: { int n = lots.nextInt(3) == 0 ? tracks : near(lots, 9 + lots.nextInt(33));
                compare(run, "row(" + r + "," + n + ")", x.row(r, n), m.row(r, n)); break; }
            case 1: case 2: { int p = near(lots, m.sizeOf(r)); int v = someInt(lots, tracks);
                compare(run, "lay(" + r + "," + p + "," + v + ")", x.lay(r, p, v), m.lay(r, p, v)); break; }
            case 3: { int p = near(lots, m.sizeOf(r));
                compare(run, "at(" + r + "," + p + ")", x.at(r, p), m.at(r, p)); break; }
            case 4: if (lots.nextInt(3) == 0) { compare(run, "tear(" + r + ")", x.tear(r), m.tear(r)); } break;
            case 5: { int to = near(lots, 6); int p = near(lots, m.sizeOf(r)); int q = near(lots, m.sizeOf(to));
                int n = near(lots, 1 + Math.max(0, m.sizeOf(r) - Math.max(p, 0)));
                compare(run, "copy(" + r + "," + p + "," + to + "," + q + "," + n + ")",
                    x.copy(r, p, to, q, n), m.copy(r, p, to, q, n)); break; }
            case 6: compare(run, "mean(" + r + ")", x.mean(r), m.mean(r)); break;
            case 7: { int t = near(lots, 4); int n = near(lots, 81);
                if (lots.nextInt(4) == 0) {
                    compare(run, "text(" + t + "," + n + ")", x.text(t, n), m.text(t, n)); } break; }
            case 8: { int t = near(lots, 4); int p = near(lots, 20); int v = lots.nextInt(300) - 100;
                compare(run, "put(" + t + "," + p + "," + v + ")", x.put(t, p, v), m.put(t, p, v)); break; }
            case 9: { int t = near(lots, 4); compare(run, "fault(" + t + ")", x.fault(t), m.fault(t)); break; }
            case 10: { int t = near(lots, 4); if (lots.nextInt(15) == 0) {
                compare(run, "pass(" + t + ")", x.pass(t), m.pass(t)); } break; }
            case 11: { int what = near(lots, 5);
                compare(run, "track(" + i + "," + what + ")", x.track(i, what), m.track(i, what)); break; }
            case 12: { int k = near(lots, m.crossings.size());
                compare(run, "crossing(" + k + ")", x.crossing(k), m.crossing(k)); break; }
            case 13: { int kind = near(lots, 6);
                compare(run, "mark(" + i + "," + kind + ")", x.mark(i, kind), m.mark(i, kind)); break; }
            case 14: { int v = near(lots, 2); compare(run, "wind(" + v + ")", x.wind(v), m.wind(v)); break; }
            case 15: { int v = near(lots, 11);
                compare(run, "fill(" + i + "," + v + ")", x.fill(i, v), m.fill(i, v)); break; }
            case 16: case 17:
                compare(run, "cross(" + i + "," + j + ")", x.cross(i, j), m.cross(i, j)); break;
            case 18: { int n = near(lots, m.crossings.size() + 1);
                compare(run, "snow(" + n + ")", x.snow(n), m.snow(n)); break; }
            case 19: { int k = near(lots, 3); compare(run, "keep(" + k + ")", x.keep(k), m.keep(k)); break; }
            case 20: { int k = near(lots, 3); compare(run, "on(" + k + ")", x.on(k), m.on(k)); break; }
            case 21: compare(run, "ahead(" + i + "," + j + ")", x.ahead(i, j), m.ahead(i, j)); break;
            case 22: compare(run, "orders()", x.orders(), m.orders()); break;
            case 23: compare(run, "first(" + r + ")", x.first(r), m.first(r)); break;
            case 24: { int n = near(lots, 1 + lots.nextInt(200));
                compare(run, "nth(" + n + "," + r + ")", x.nth(n, r), m.nth(n, r)); break; }
            case 25: compare(run, "sure(" + i + "," + j + ")", x.sure(i, j), m.sure(i, j)); break;
            case 26: compare(run, "odds(" + i + "," + j + ")", x.odds(i, j), m.odds(i, j)); break;
            case 27: compare(run, "place(" + i + ")", x.place(i), m.place(i)); break;
            case 28: compare(run, "judge(" + r + ")", x.judge(r), m.judge(r)); break;
            case 29: compare(run, "meet(" + i + "," + j + ")", x.meet(i, j), m.meet(i, j)); break;
            case 30: compare(run, "chain(" + i + ")", x.chain(i), m.chain(i)); break;
            case 31: compare(run, "ring(" + r + ")", x.ring(r), m.ring(r)); break;
            case 32: compare(run, "wrong()", x.wrong(), m.wrong()); break;
            case 33: compare(run, "twice()", x.twice(), m.twice()); break;
            case 34: compare(run, "look()", x.look(), m.look()); break;
            case 35: compare(run, "hide(" + i + "," + j + ")", x.hide(i, j), m.hide(i, j)); break;
            case 36: compare(run, "people()", x.people(), m.people()); break;
            case 37: case 38: case 39: case 40: return claims(x, m, lots, run, r);
            case 41: { int n = 1 + near(lots, 16); int seed = lots.nextInt(20) == 0 ? near(lots, 1) : 1 + lots.nextInt(Integer.MAX_VALUE - 1);
                if (lots.nextInt(3) == 0) {
                    compare(run, "walks(" + r + "," + n + "," + seed + ")", x.walks(r, n, seed), m.walks(r, n, seed)); } break; }
            case 42: { int what = near(lots, 8); compare(run, "count(" + what + ")", x.count(what), m.count(what)); break; }
            case 43: compare(run, "finding()", x.finding(), m.finding); break;
            case 44: { int f = near(lots, 6); compare(run, "findings(" + f + ")", x.findings(f), m.findings(f)); break; }
            default: compare(run, "digest()", x.digest(), m.digest()); break;
        }
        compare(run, "asked()", x.asked(), m.asked);
        compare(run, "upper()", x.upper(), m.upper);
        compare(run, "lower()", x.lower(), m.lower);
        return 4;
    }

    private static int someInt(Random lots, int tracks) {
        switch (lots.nextInt(8)) {
            case 0: return lots.nextInt();
            case 1: return lots.nextInt(100) - 10;
            case 2: case 3: return 10 * lots.nextInt(tracks + 1) + lots.nextInt(tracks + 1);
            default: return lots.nextInt(tracks + 1);
        }
    }

    private static int claims(SnowTracks x, Model m, Random lots, int run, int r) {
        int tracks = m.tracks.size();
        int n = lots.nextInt(12) == 0 ? 9 : lots.nextInt(9);
        int calls = 1;
        if (lots.nextInt(4) != 0) {
            compare(run, "row(" + r + "," + n + ")", x.row(r, n), m.row(r, n));
            for (int k = 0; k < n; k++) {
                int i = lots.nextInt(tracks + 1) % Math.max(tracks, 1);
                int j = lots.nextInt(Math.max(tracks, 1));
                int v = lots.nextInt(60) == 0 ? someInt(lots, tracks) : i == j ? 10 * i + (i + 1) % Math.max(tracks, 1) : 10 * i + j;
                compare(run, "lay(" + r + "," + k + "," + v + ")", x.lay(r, k, v), m.lay(r, k, v));
                calls++;
            }
        }
        compare(run, "story(" + r + ")", x.story(r), m.story(r));
        compare(run, "hold(" + r + ")", x.hold(r), m.hold(r));
        compare(run, "asked()", x.asked(), m.asked);
        compare(run, "believe(" + r + ")", x.believe(r), m.believe(r));
        compare(run, "upper()", x.upper(), m.upper);
        compare(run, "lower()", x.lower(), m.lower);
        return calls + 6;
    }

    /** The slow model. */
    private static final class Model {
        int[][] rows = new int[6][];
        byte[][] texts = new byte[4][];
        /** Of each track kind, size, fill (10: not seen). */
        List<int[]> tracks = new ArrayList<>();
        /** Of each crossing over, beneath. */
        List<int[]> crossings = new ArrayList<>();
        int wind = 0;
        int[][] keptFills = new int[3][];
        int[][][] keptCrossings = new int[3][][];
        int[] keptWind = new int[3];
        int asked = 0;
        long upper = 0;
        long lower = 1;
        int finding = 0;
        int[] found = new int[6];

        int find(int f) {
            finding = f;
            found[f]++;
            return -3;
        }

        boolean isRow(int r) {
            return 0 <= r && r <= 5;
        }

        int sizeOf(int r) {
            return isRow(r) && rows[r] != null ? rows[r].length : 0;
        }

        int row(int r, int n) {
            if (!isRow(r) || n > 40) return -1;
            if (n < 0) return find(5);
            rows[r] = new int[n];
            return n;
        }

        int lay(int r, int i, int v) {
            int answer = at(r, i);
            if (answer == 1) rows[r][i] = v;
            return answer;
        }

        int at(int r, int i) {
            if (!isRow(r)) return -1;
            if (rows[r] == null) return find(1);
            if (i < 0 || i >= rows[r].length) return find(2);
            asked = rows[r][i];
            return 1;
        }

        int tear(int r) {
            if (!isRow(r)) return -1;
            if (rows[r] == null) return find(1);
            rows[r] = null;
            return 1;
        }

        int copy(int r, int i, int to, int j, int n) {
            if (!isRow(r) || !isRow(to)) return -1;
            if (n < 0) return find(5);
            if (rows[r] == null || rows[to] == null) return find(1);
            if (i < 0 || j < 0 || (long) i + n > rows[r].length || (long) j + n > rows[to].length) return find(2);
            int[] taken = rows[r].clone();
            for (int k = 0; k < n; k++) rows[to][j + k] = taken[i + k];
            return 1;
        }

        int mean(int r) {
            if (!isRow(r)) return -1;
            if (rows[r] == null) return find(1);
            if (rows[r].length == 0) return find(4);
            java.math.BigInteger sum = java.math.BigInteger.ZERO;
            for (int v : rows[r]) sum = sum.add(java.math.BigInteger.valueOf(v));
            asked = sum.divide(java.math.BigInteger.valueOf(rows[r].length)).intValueExact();
            return 1;
        }

        boolean isText(int t) {
            return 0 <= t && t <= 3;
        }

        int text(int t, int n) {
            if (!isText(t) || n > 80) return -1;
            if (n < 0) return find(5);
            texts[t] = " ".repeat(n).getBytes();
            return n;
        }

        int put(int t, int i, int v) {
            if (!isText(t)) return -1;
            if (texts[t] == null) return find(1);
            if (i < 0 || i >= texts[t].length) return find(2);
            int was = texts[t][i];
            texts[t][i] = (byte) v;
            return 1000 + was;
        }

        /** The text with all that is no Latin sign turned to one that no pass holds. */
        String signsOf(int t) {
            StringBuilder b = new StringBuilder();
            for (byte v : texts[t]) b.append(v < 0 ? '?' : (char) v);
            return b.toString();
        }

        /** Sign by sign: the first one that the signs ahead of it do not let stand. */
        int faultOf(String signs) {
            int fromItem = 0;
            int ts = 0;
            int cs = 0;
            char first = ' ';
            for (int p = 0; p < signs.length(); p++) {
                char c = signs.charAt(p);
                boolean figure = c >= '0' && c <= '9';
                if (fromItem == 0) {
                    if (c == ' ') continue;
                    boolean letter = "fhewcv".indexOf(c) >= 0 && cs == 0 && ts < 7;
                    boolean number = figure && c - '0' < ts && cs < 16;
                    if (!letter && !number) return p;
                    first = c;
                    fromItem = 1;
                } else if (fromItem == 1) {
                    boolean fits = Character.isLetter(first) ? figure : c == '>';
                    if (!fits) return p;
                    fromItem = 2;
                } else {
                    boolean fits = Character.isLetter(first) ? figure || c == '-' : figure && c - '0' < ts && c != first;
                    if (!fits) return p;
                    if (Character.isLetter(first)) ts++; else cs++;
                    fromItem = 0;
                }
            }
            return fromItem == 0 ? -9 : signs.length();
        }

        int fault(int t) {
            if (!isText(t)) return -1;
            if (texts[t] == null) return find(1);
            return faultOf(signsOf(t));
        }

        int pass(int t) {
            if (!isText(t)) return -1;
            if (texts[t] == null) return find(1);
            if (faultOf(signsOf(t)) != -9) return -4;
            tracks.clear();
            crossings.clear();
            String dense = signsOf(t).replace(" ", "");
            for (int p = 0; p < dense.length(); p += 3) {
                char a = dense.charAt(p);
                char b = dense.charAt(p + 1);
                char c = dense.charAt(p + 2);
                if (b == '>') crossings.add(new int[] {a - '0', c - '0'});
                else tracks.add(new int[] {"fhewcv".indexOf(a), b - '0', c == '-' ? 10 : c - '0'});
            }
            for (int k = 0; k < 3; k++) keptCrossings[k] = null;
            return tracks.size();
        }

        boolean isTrack(int i) {
            return 0 <= i && i < tracks.size();
        }

        int kind(int i) {
            return tracks.get(i)[0];
        }

        boolean heavy(int i) {
            return kind(i) == 1 || kind(i) == 4;
        }

        boolean hare(int i) {
            return kind(i) == 2 || kind(i) == 5;
        }

        int value(int i, int what) {
            if (what < 2) return tracks.get(i)[what];
            if (what == 2) return tracks.get(i)[2] == 10 ? -9 : tracks.get(i)[2];
            int c = 0;
            for (int[] x : crossings) if (x[what - 3] == i) c++;
            return c;
        }

        int track(int i, int what) {
            if (!isTrack(i) || what < 0 || what > 4) return -1;
            asked = value(i, what);
            return 1;
        }

        boolean tells(int[] x) {
            int o = x[0];
            int b = x[1];
            if (kind(o) == 3 || kind(b) == 3) return false;
            if (kind(o) == 4 && hare(b)) return true;
            if (heavy(o)) return false;
            if (hare(b)) return false;
            return kind(o) != 5 || kind(b) == 0;
        }

        int crossing(int k) {
            if (k < 0) return -1;
            if (k >= crossings.size()) return find(2);
            int[] x = crossings.get(k);
            asked = tells(x) ? 1 : 0;
            return 10 * x[0] + x[1];
        }

        int mark(int i, int kind) {
            if (!isTrack(i) || kind < 1 || kind > 5) return -1;
            boolean is = kind == 1 ? heavy(i) : kind == 2 ? hare(i) : kind(i) == kind;
            if (!is) return find(3);
            int c = 0;
            if (kind == 1 || kind == 2) {
                for (int[] x : crossings) if (x[kind - 1] == i && !tells(x)) c++;
            }
            for (int j = 0; j < tracks.size(); j++) {
                boolean over = false;
                boolean beneath = false;
                for (int[] x : crossings) {
                    over |= x[0] == i && x[1] == j;
                    beneath |= x[1] == i && x[0] == j;
                }
                if (kind == 3 && (over || beneath)) c++;
                if (kind == 4 && over && hare(j)) c++;
                if (kind == 5 && j != i && hare(j)) c++;
            }
            return c;
        }

        int wind(int v) {
            if (v != 0 && v != 1) return -1;
            int was = wind;
            wind = v;
            return was;
        }

        int fill(int i, int v) {
            if (!isTrack(i) || v < 0 || v > 10) return -1;
            int was = tracks.get(i)[2];
            tracks.get(i)[2] = v;
            return was;
        }

        int cross(int i, int j) {
            if (!isTrack(i) || !isTrack(j) || i == j) return -1;
            if (crossings.size() == 16) return -2;
            crossings.add(new int[] {i, j});
            return crossings.size() - 1;
        }

        int snow(int n) {
            if (n < 0 || n > crossings.size()) return -1;
            int gone = 0;
            while (crossings.size() > n) {
                crossings.remove(crossings.size() - 1);
                gone++;
            }
            return gone;
        }

        int keep(int k) {
            if (k < 0 || k > 2) return -1;
            if (tracks.isEmpty()) return -4;
            keptFills[k] = new int[tracks.size()];
            for (int i = 0; i < tracks.size(); i++) keptFills[k][i] = tracks.get(i)[2];
            keptCrossings[k] = new int[crossings.size()][];
            for (int i = 0; i < crossings.size(); i++) keptCrossings[k][i] = crossings.get(i).clone();
            keptWind[k] = wind;
            return crossings.size();
        }

        int on(int k) {
            if (k < 0 || k > 2) return -1;
            if (keptCrossings[k] == null) return find(1);
            for (int i = 0; i < tracks.size(); i++) tracks.get(i)[2] = keptFills[k][i];
            crossings.clear();
            for (int[] x : keptCrossings[k]) crossings.add(x.clone());
            wind = keptWind[k];
            return crossings.size();
        }

        boolean[][] went(boolean withCrossings, boolean withWind) {
            boolean[][] w = new boolean[tracks.size()][tracks.size()];
            if (withCrossings) for (int[] x : crossings) if (tells(x)) w[x[1]][x[0]] = true;
            if (withWind && wind == 1) {
                for (int i = 0; i < w.length; i++) {
                    for (int j = 0; j < w.length; j++) {
                        int a = tracks.get(i)[2];
                        int b = tracks.get(j)[2];
                        if (kind(i) != 3 && kind(j) != 3 && a != 10 && b != 10 && a >= b + 2) w[i][j] = true;
                    }
                }
            }
            return w;
        }

        boolean[][] went() {
            return went(true, true);
        }

        static boolean[][] closed(boolean[][] w) {
            boolean[][] c = new boolean[w.length][];
            for (int i = 0; i < w.length; i++) c[i] = w[i].clone();
            for (int round = 0; round < w.length; round++)
                for (int i = 0; i < w.length; i++)
                    for (int j = 0; j < w.length; j++)
                        for (int k = 0; k < w.length; k++) c[i][j] |= c[i][k] && c[k][j];
            return c;
        }

        static boolean ringIn(boolean[][] w) {
            boolean[][] c = closed(w);
            for (int i = 0; i < c.length; i++) if (c[i][i]) return true;
            return false;
        }

        static List<int[]> ordersOf(boolean[][] w) {
            List<int[]> all = new ArrayList<>();
            permute(w, new int[w.length], 0, 0, all);
            return all;
        }

        static void permute(boolean[][] w, int[] order, int n, int used, List<int[]> all) {
            if (n == w.length) {
                for (int a = 0; a < n; a++)
                    for (int b = a + 1; b < n; b++) if (w[order[b]][order[a]]) return;
                all.add(order.clone());
                return;
            }
            for (int i = 0; i < w.length; i++) {
                if ((used & 1 << i) == 0) {
                    order[n] = i;
                    permute(w, order, n + 1, used | 1 << i, all);
                }
            }
        }

        static int index(int[] order, int i) {
            for (int p = 0; p < order.length; p++) if (order[p] == i) return p;
            return -1;
        }

        boolean two(int i, int j) {
            return isTrack(i) && isTrack(j) && i != j;
        }

        int ahead(int i, int j) {
            return !two(i, j) ? -1 : went()[i][j] ? 1 : 0;
        }

        void tell(long up, long low) {
            long g = java.math.BigInteger.valueOf(up).gcd(java.math.BigInteger.valueOf(low)).longValue();
            upper = up / g;
            lower = low / g;
        }

        int orders() {
            tell(ordersOf(went()).size(), 1);
            return 1;
        }

        int first(int r) {
            if (!isRow(r)) return -1;
            List<int[]> all = ordersOf(went());
            if (all.isEmpty()) return -9;
            rows[r] = all.get(0);
            return 1;
        }

        int nth(int i, int r) {
            if (i < 0 || !isRow(r)) return -1;
            List<int[]> all = ordersOf(went());
            if (i >= all.size()) return find(4);
            rows[r] = all.get(i);
            return 1;
        }

        /** In how many orders one is ahead of another one. */
        static int with(List<int[]> all, int i, int j) {
            int c = 0;
            for (int[] o : all) if (index(o, i) < index(o, j)) c++;
            return c;
        }

        int sure(int i, int j) {
            if (!two(i, j)) return -1;
            List<int[]> all = ordersOf(went());
            if (all.isEmpty()) return find(4);
            int c = with(all, i, j);
            return c == all.size() ? 1 : c == 0 ? 2 : 0;
        }

        int odds(int i, int j) {
            if (!two(i, j)) return -1;
            List<int[]> all = ordersOf(went());
            if (all.isEmpty()) return find(4);
            tell(with(all, i, j), all.size());
            return 1;
        }

        int place(int i) {
            if (!isTrack(i)) return -1;
            List<int[]> all = ordersOf(went());
            if (all.isEmpty()) return find(4);
            int least = 99;
            int most = -1;
            for (int[] o : all) {
                least = Math.min(least, index(o, i));
                most = Math.max(most, index(o, i));
            }
            asked = most;
            return least;
        }

        int orderFinding(int r) {
            if (rows[r] == null) return 1;
            if (rows[r].length != tracks.size()) return 5;
            for (int i = 0; i < tracks.size(); i++) if (index(rows[r], i) < 0) return 3;
            return 0;
        }

        int judge(int r) {
            if (!isRow(r)) return -1;
            if (orderFinding(r) != 0) return find(orderFinding(r));
            int first = -1;
            int against = 0;
            for (int k = 0; k < crossings.size(); k++) {
                int[] x = crossings.get(k);
                if (tells(x) && index(rows[r], x[1]) > index(rows[r], x[0])) {
                    if (first < 0) first = k;
                    against++;
                }
            }
            asked = against;
            return first < 0 ? crossings.size() : first;
        }

        int meet(int i, int j) {
            if (!two(i, j)) return -1;
            List<int[]> all = ordersOf(went());
            if (all.isEmpty()) return find(4);
            for (int[] o : all) if (Math.abs(index(o, i) - index(o, j)) == 1) return 1;
            return 0;
        }

        int longest(boolean[][] sure, int i, boolean behind) {
            int most = 0;
            for (int j = 0; j < sure.length; j++) {
                if (behind ? sure[i][j] : sure[j][i]) most = Math.max(most, longest(sure, j, behind));
            }
            return most + 1;
        }

        int chain(int i) {
            if (!isTrack(i)) return -1;
            boolean[][] sure = closed(went());
            if (ringIn(sure)) return find(4);
            asked = longest(sure, i, true);
            return longest(sure, i, false);
        }

        static int[] ringOf(boolean[][] w, int[] path, int n, int size) {
            if (n == size) return w[path[n - 1]][path[0]] ? path.clone() : null;
            for (int i = n == 0 ? 0 : path[0] + 1; i < w.length; i++) {
                boolean used = false;
                for (int p = 0; p < n; p++) used |= path[p] == i;
                if (used || n > 0 && !w[path[n - 1]][i]) continue;
                path[n] = i;
                int[] ring = ringOf(w, path, n + 1, size);
                if (ring != null) return ring;
            }
            return null;
        }

        int ring(int r) {
            if (!isRow(r)) return -1;
            for (int size = 2; size <= tracks.size(); size++) {
                int[] ring = ringOf(went(), new int[size], 0, size);
                if (ring != null) {
                    rows[r] = ring;
                    return size;
                }
            }
            return -9;
        }

        int wrong() {
            for (int size = 0; size <= 16; size++) {
                for (int set = 0; set < 1 << crossings.size(); set++) {
                    if (Integer.bitCount(set) != size) continue;
                    boolean[][] w = went(false, true);
                    boolean all = true;
                    for (int k = 0; k < crossings.size(); k++) {
                        int[] x = crossings.get(k);
                        boolean out = (set >> k & 1) == 1;
                        all &= !out || tells(x);
                        if (tells(x) && !out) w[x[1]][x[0]] = true;
                    }
                    if (all && !ringIn(w)) {
                        asked = set;
                        return size;
                    }
                }
            }
            return 99;
        }

        int twice() {
            for (int size = 0; size <= 7; size++) {
                for (int set = 0; set < 1 << tracks.size(); set++) {
                    if (Integer.bitCount(set) != size) continue;
                    boolean[][] w = went();
                    for (int i = 0; i < w.length; i++)
                        for (int j = 0; j < w.length; j++)
                            if ((set >> i & 1) == 1 || (set >> j & 1) == 1) w[i][j] = false;
                    if (!ringIn(w)) {
                        asked = set;
                        return size;
                    }
                }
            }
            return 99;
        }

        int look() {
            List<int[]> all = ordersOf(went());
            if (all.isEmpty()) return find(4);
            int best = -9;
            int fewest = 99999;
            for (int i = 0; i < tracks.size(); i++) {
                for (int j = i + 1; j < tracks.size(); j++) {
                    int c = with(all, i, j);
                    if (c == 0 || c == all.size()) continue;
                    if (Math.max(c, all.size() - c) < fewest) {
                        fewest = Math.max(c, all.size() - c);
                        best = 10 * i + j;
                    }
                }
            }
            if (best != -9) asked = fewest;
            return best;
        }

        int hide(int i, int j) {
            if (!two(i, j)) return -1;
            if (ringIn(went(true, false))) return find(4);
            int fewest = 99;
            for (int set = 0; set < 1 << crossings.size(); set++) {
                if (Integer.bitCount(set) >= fewest) continue;
                boolean[][] w = new boolean[tracks.size()][tracks.size()];
                for (int k = 0; k < crossings.size(); k++) {
                    int[] x = crossings.get(k);
                    if ((set >> k & 1) == 0 && tells(x)) w[x[1]][x[0]] = true;
                }
                if (!closed(w)[i][j]) fewest = Integer.bitCount(set);
            }
            return fewest;
        }

        boolean samePerson(List<Integer> a) {
            for (int i : a) {
                for (int j : a) {
                    if (Math.abs(tracks.get(i)[1] - tracks.get(j)[1]) > 1) return false;
                    for (int[] x : crossings) if (x[0] == i && x[1] == j) return false;
                }
            }
            return true;
        }

        int share(int i, List<List<Integer>> persons) {
            if (i == tracks.size()) {
                for (List<Integer> p : persons) if (!samePerson(p)) return 99;
                return persons.size();
            }
            int fewest = 99;
            for (int p = 0; p < persons.size(); p++) {
                persons.get(p).add(i);
                fewest = Math.min(fewest, share(i + 1, persons));
                persons.get(p).remove(persons.get(p).size() - 1);
            }
            persons.add(new ArrayList<>(List.of(i)));
            fewest = Math.min(fewest, share(i + 1, persons));
            persons.remove(persons.size() - 1);
            return fewest;
        }

        int people() {
            int most = 0;
            for (int set = 1; set < 1 << tracks.size(); set += 2) {
                List<Integer> a = new ArrayList<>();
                for (int i = 0; i < tracks.size(); i++) if ((set >> i & 1) == 1) a.add(i);
                if (samePerson(a)) most = Math.max(most, a.size());
            }
            asked = most;
            return share(0, new ArrayList<>());
        }

        int claimFinding(int r) {
            if (rows[r] == null) return 1;
            if (rows[r].length > 8) return 5;
            for (int v : rows[r]) {
                boolean fits = false;
                for (int i = 0; i < tracks.size(); i++)
                    for (int j = 0; j < tracks.size(); j++) fits |= i != j && v == 10 * i + j;
                if (!fits) return 3;
            }
            return ringIn(went()) ? 4 : 0;
        }

        /** Whether the claims of a set hold together with what is told. */
        boolean holds(int r, int set) {
            boolean[][] w = went();
            for (int k = 0; k < rows[r].length; k++) {
                if ((set >> k & 1) == 1) w[rows[r][k] / 10][rows[r][k] % 10] = true;
            }
            return !ringIn(w);
        }

        int story(int r) {
            if (!isRow(r)) return -1;
            if (claimFinding(r) != 0) return find(claimFinding(r));
            int k = 0;
            while (k < rows[r].length && holds(r, (2 << k) - 1)) k++;
            return k;
        }

        int hold(int r) {
            if (!isRow(r)) return -1;
            if (claimFinding(r) != 0) return find(claimFinding(r));
            int best = 0;
            for (int set = 0; set < 1 << rows[r].length; set++) {
                if (Integer.bitCount(set) > Integer.bitCount(best) && holds(r, set)) best = set;
            }
            asked = best;
            return Integer.bitCount(best);
        }

        int believe(int r) {
            if (!isRow(r)) return -1;
            if (claimFinding(r) != 0) return find(claimFinding(r));
            List<int[]> all = ordersOf(went());
            int c = 0;
            for (int[] o : all) {
                boolean keeps = true;
                for (int v : rows[r]) keeps &= index(o, v / 10) < index(o, v % 10);
                if (keeps) c++;
            }
            tell(c, all.size());
            return 1;
        }

        int walks(int r, int n, int seed) {
            if (!isRow(r) || n < 1 || n > 16 || seed < 1 || seed > 2147483646) return -1;
            if (tracks.size() < 2) return -4;
            if (orderFinding(r) != 0) return find(orderFinding(r));
            int came = 0;
            long lot = seed;
            for (int i = 0; i < n; i++) {
                lot = lot * 48271 % 2147483647;
                int a = (int) (lot % tracks.size());
                int b = (int) (lot / 64 % tracks.size());
                if (a == b || crossings.size() == 16) continue;
                boolean aBehind = index(rows[r], a) > index(rows[r], b);
                crossings.add(aBehind ? new int[] {a, b} : new int[] {b, a});
                came++;
            }
            return came;
        }

        int count(int what) {
            int c = 0;
            switch (what) {
                case 0: return tracks.size();
                case 1: return crossings.size();
                case 2: for (int[] x : crossings) if (tells(x)) c++; return c;
                case 3: for (int i = 0; i < tracks.size(); i++) if (heavy(i)) c++; return c;
                case 4: for (int i = 0; i < tracks.size(); i++) if (hare(i)) c++; return c;
                case 5: for (int[][] k : keptCrossings) if (k != null) c++; return c;
                case 6: for (int[] k : rows) if (k != null) c++; return c;
                case 7: for (byte[] k : texts) if (k != null) c++; return c;
                default: return -1;
            }
        }

        int findings(int f) {
            return f < 1 || f > 5 ? -1 : found[f];
        }

        long digest() {
            List<Long> vs = new ArrayList<>();
            for (int what = 0; what < 8; what++) vs.add((long) count(what));
            vs.add((long) wind);
            for (int i = 0; i < tracks.size(); i++) for (int what = 0; what < 5; what++) vs.add((long) value(i, what));
            for (int[] x : crossings) vs.add(10L * x[0] + x[1]);
            for (int[][] k : keptCrossings) vs.add(k == null ? -1L : k.length);
            for (int[] row : rows) {
                vs.add(row == null ? -1L : row.length);
                if (row != null) for (int v : row) vs.add((long) v);
            }
            for (byte[] text : texts) {
                vs.add(text == null ? -1L : text.length);
                if (text != null) for (byte v : text) vs.add((long) v);
            }
            long h = 17;
            for (long v : vs) h = 31 * h + v;
            return h;
        }
    }
}

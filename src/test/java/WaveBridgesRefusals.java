import java.util.ArrayList;
import java.util.Arrays;
import java.util.List;
import java.util.function.Consumer;
import java.util.function.ToIntFunction;

/**
 * Each call with the last argument that is allowed and the first that is not, on a net that was never told, on an empty
 * one, on one that is full; and what a refused call leaves as it was: all but its count (and the tape, where that goes).
 */
public final class WaveBridgesRefusals {
    private static final int NONE = WaveBridges.NONE;
    private static final int MIN = Integer.MIN_VALUE;
    private static final int MAX = Integer.MAX_VALUE;
    private static final String EMPTY = "net age 6 delay 2;";
    private static final String ALONE = EMPTY + "bridge a prio 1;host h at a;host g at a;";
    // IDs 16, 33, 50: a is the root, the link of b and c is a spare one that c shuts.
    private static final String TRIANGLE = EMPTY + "bridge a prio 1;bridge b prio 2;bridge c prio 3;"
            + "link a to b cost 1 takes 1;link a to c cost 1 takes 3;link b to c cost 1 takes 2;"
            + "host h at a;host g at b;host f at c;";
    private static final String FULL = full();
    private static final int MOST_CALLS = 512;

    private static int wrong = 0;
    private static int promise = 0;

    private static void due(String call, long got, long want) {
        if (got != want) {
            wrong++;
            System.out.println("promise " + promise + ": " + call + " answered " + got + ", due is " + want);
        }
    }
    private static void due(String call, boolean got, boolean want) { due(call, got ? 1 : 0, want ? 1 : 0); }

    private static void put(WaveBridges x, int... bytes) {
        for (int at = 0; at < bytes.length; at += 20) {
            int[] v = new int[5];
            for (int k = 0; k < 20; k++) v[k / 4] = v[k / 4] << 8 | (at + k < bytes.length ? bytes[at + k] & 255 : 0);
            x.feed(v[0], v[1], v[2], v[3], v[4]);
        }
        x.end(bytes.length);
    }
    private static void put(WaveBridges x, String text) { put(x, text.chars().toArray()); }
    private static WaveBridges of(String text) {
        WaveBridges x = new WaveBridges();
        tell(x, text);
        return x;
    }
    private static void tell(WaveBridges x, String text) {
        put(x, text);
        if (x.net() == NONE) due("net() of " + text, NONE, 1);
    }
    private static int bit(boolean b) { return b ? 1 : 0; }

    /** 8 bridges, 14 links, 8 hosts; bridge a has 6 ports. */
    private static String full() {
        StringBuilder t = new StringBuilder(EMPTY);
        for (int k = 0; k < 8; k++) t.append("bridge bbbbb").append((char) ('s' + k)).append(" prio 15;");
        for (int k = 0; k < 14; k++) {
            int from = k < 6 ? 0 : 1 + k % 7;
            int to = k < 6 ? k + 1 : 1 + (k + 1) % 7;
            t.append("link bbbbb").append((char) ('s' + from)).append(" to bbbbb").append((char) ('s' + to)).append(" cost 1 takes 1;");
        }
        for (int k = 0; k < 8; k++) t.append("host hhhhh").append((char) ('s' + k)).append(" at bbbbb").append((char) ('s' + k)).append(";");
        return t.toString();
    }

    // ---- all that can be asked

    private record Question(String name, ToIntFunction<WaveBridges> asked) { }

    private static final List<Question> QUESTIONS = questions();

    private static void ask(List<Question> all, String name, ToIntFunction<WaveBridges> asked) { all.add(new Question(name, asked)); }

    private static List<Question> questions() {
        List<Question> all = new ArrayList<>();
        for (int k = 0; k < 13; k++) { int what = k; ask(all, "has(" + k + ")", x -> x.has(what)); }
        for (int k = 0; k < 2; k++) { int what = k; ask(all, "fault(" + k + ")", x -> x.fault(what)); }
        for (int b = 0; b < 4; b++) {
            int one = b;
            for (int k = 0; k < 9; k++) { int what = k; ask(all, "bridge(" + b + ", " + k + ")", x -> x.bridge(one, what)); }
            for (int k = 0; k < 3; k++) { int what = k; ask(all, "due(" + b + ", " + k + ")", x -> x.due(one, what)); }
            for (int k = 0; k < 2; k++) { int what = k; ask(all, "letter(" + k + ", " + b + ", 0)", x -> x.letter(what, one, 0)); }
            for (int p = 0; p < 3; p++) {
                int port = p;
                String at = "(" + b + ", " + p + ", ";
                for (int k = 0; k < 10; k++) { int what = k; ask(all, "port" + at + k + ")", x -> x.port(one, port, what)); }
                for (int k = 0; k < 6; k++) { int what = k; ask(all, "held" + at + k + ")", x -> x.held(one, port, what)); }
                ask(all, "role" + at + ")", x -> x.role(one, port));
            }
            for (int h = 0; h < 4; h++) {
                int other = h;
                for (int k = 0; k < 2; k++) { int what = k; ask(all, "address(" + b + ", " + h + ", " + k + ")", x -> x.address(one, other, what)); }
                ask(all, "leads(" + b + ", " + h + ")", x -> x.leads(one, other));
                ask(all, "joined(" + b + ", " + h + ")", x -> x.joined(one, other));
            }
            for (int k = 0; k < 8; k++) { int what = k; ask(all, "link(" + b + ", " + k + ")", x -> x.link(one, what)); }
            ask(all, "heal(" + b + ")", x -> x.heal(one));
        }
        for (int n = 0; n < 8; n++) {
            int one = n;
            for (int k = 0; k < 10; k++) { int what = k; ask(all, "message(" + n + ", " + k + ")", x -> x.message(one, what)); }
            for (int k = 0; k < 4; k++) { int what = k; ask(all, "kept(" + n + ", " + k + ")", x -> x.kept(one, what)); }
        }
        ask(all, "rests()", x -> bit(x.rests()));
        ask(all, "when()", x -> x.when());
        ask(all, "rings(200)", x -> x.rings(200));
        for (int k = 0; k < 3; k++) {
            int what = k;
            ask(all, "ring(" + k + ")", x -> x.ring(what));
            ask(all, "worst(" + k + ")", x -> x.worst(what));
            ask(all, "tells(" + k + ")", x -> x.tells(what));
            ask(all, "centre(" + k + ")", x -> x.centre(what));
            ask(all, "frame(" + k + ")", x -> x.frame(what));
        }
        for (int k = -1; k < 6; k++) { int which = k; ask(all, "suspect(" + k + ")", x -> x.suspect(which)); }
        for (int k = 0; k < 18; k++) { int which = k; ask(all, "octet(" + k + ")", x -> x.octet(which)); }
        return all;
    }

    /** What each question is answered behind the run; a new object for each hundred of them, as 512 calls are the most. */
    private static List<String> told(Consumer<WaveBridges> run) {
        List<String> all = new ArrayList<>();
        for (int from = 0; from < QUESTIONS.size(); from += 100) {
            WaveBridges x = new WaveBridges();
            run.accept(x);
            for (Question q : QUESTIONS.subList(from, Math.min(from + 100, QUESTIONS.size()))) all.add(q.name + " " + q.asked.applyAsInt(x));
        }
        WaveBridges x = new WaveBridges();
        run.accept(x);
        all.add("feed() " + x.feed(0, 0, 0, 0, 0));
        for (int k = 0; x.undo(); k++) {
            all.add("undone " + k + ": " + x.has(3) + " " + x.has(4) + " " + x.has(5) + " " + x.has(6) + " " + x.has(9) + " " + x.bridge(0, 0)
                    + " " + x.address(0, 0, 0) + " " + x.message(0, 0) + " " + x.port(1, 0, 1));
        }
        return all;
    }

    private static void same(String call, List<String> got, List<String> want, String but) {
        due(call + ": how many answers", got.size(), want.size());
        for (int k = 0; k < Math.min(got.size(), want.size()); k++) {
            if (got.get(k).equals(want.get(k)) || !but.isEmpty() && got.get(k).startsWith(but)) continue;
            wrong++;
            System.out.println("promise " + promise + ": behind " + call + " " + got.get(k) + ", due is " + want.get(k));
        }
    }

    /** A run up to a call, and what is told then. */
    private static final class Place {
        final Consumer<WaveBridges> run;
        final List<String> told;
        Place(Consumer<WaveBridges> run) {
            this.run = run;
            told = told(run);
        }
        Place with(Consumer<WaveBridges> more) { return new Place(run.andThen(more)); }
    }

    /** The call is refused: its answer, one more of its kind, none of another, and all else as it was. */
    private static void refused(Place at, int kind, String call, ToIntFunction<WaveBridges> asked, int want) {
        WaveBridges x = new WaveBridges();
        at.run.accept(x);
        int[] before = new int[6];
        for (int k = 0; k < 6; k++) before[k] = x.status(k);
        due(call, asked.applyAsInt(x), want);
        for (int k = 0; k < 6; k++) due("status(" + k + ") behind " + call, x.status(k), before[k] + (k == kind ? 1 : 0));
        same(call, told(at.run.andThen(y -> asked.applyAsInt(y))), at.told, kind == 1 ? "fault" : "");
    }

    /** The same of a call that takes the tape: it goes, whether refused or not. */
    private static void refusedTape(Consumer<WaveBridges> run, int kind, String call, int[] tape, ToIntFunction<WaveBridges> asked, int want) {
        Place at = new Place(run.andThen(x -> { put(x, tape); x.end(0); }));
        refused(at, kind, call, x -> { put(x, tape); return asked.applyAsInt(x); }, want);
    }

    // ---- places

    private static final Consumer<WaveBridges> NEVER = x -> { };

    /** Busy: steps, messages on their way, addresses, rows seen, an image, acts to be undone, a cut, a bridge that is off. */
    private static void live(WaveBridges x) {
        tell(x, TRIANGLE);
        x.seed(77);
        x.run(30);
        x.send(0, 2);
        x.send(2, 0);
        x.image();
        put(x, 2, 1, 3, 0, 0, 2);
        x.see(5);
        x.turn(1);
        x.run(9);
        x.cut(1);
        x.run(1);
    }
    private static final Consumer<WaveBridges> LIVE = WaveBridgesRefusals::live;

    private static Consumer<WaveBridges> to(String text, int step) {
        return x -> {
            tell(x, text);
            while (x.has(3) + 200 <= step) x.run(200);
            if (x.has(3) < step) x.run(step - x.has(3));
        };
    }

    // ---- refused, and all stays

    private static void refusedTapes() {
        promise = 2;
        Place full = new Place(LIVE.andThen(x -> { for (int k = 0; k < 80; k++) x.feed(k, k, k, k, k); }));
        refused(full, 0, "feed() beyond 1600", x -> x.feed(1, 2, 3, 4, 5), NONE);
        promise = 3;
        Place some = new Place(LIVE.andThen(x -> x.feed(1, 2, 3, 4, 5)));
        for (int n : new int[] {21, MAX, -1, MIN}) refused(some, 0, "end(" + n + ")", x -> bit(x.end(n)), 0);
        promise = 4;
        String[] texts = {"", EMPTY + "x", EMPTY + "bridge a prio 16;", TRIANGLE + "host h at a;", TRIANGLE + "link a to z"};
        for (String text : texts) refusedTape(LIVE, 1, "net()", text.chars().toArray(), x -> x.net(), NONE);
        refusedTape(NEVER, 1, "net()", "net".chars().toArray(), x -> x.net(), NONE);
    }

    private static void refusedSteps() {
        promise = 29;
        Place live = new Place(LIVE);
        for (int n : new int[] {0, -1, 201, MIN, MAX}) refused(live, 2, "run(" + n + ")", x -> x.run(n), NONE);
        refused(new Place(NEVER), 2, "run(1) without a net", x -> x.run(1), NONE);
        refused(new Place(to(TRIANGLE, 9999)), 2, "run(1) at 9999", x -> x.run(1), NONE);
        refused(new Place(to(TRIANGLE, 9998)), 2, "run(2) at 9998", x -> x.run(2), NONE);
        refused(new Place(to(TRIANGLE, 9800)), 2, "run(200) at 9800", x -> x.run(200), NONE);
        due("run(199) at 9800", at(TRIANGLE, 9800).run(199), 9999);
        due("run(1) at 9998", at(TRIANGLE, 9998).run(1), 9999);
        due("run(200) at 9799", at(TRIANGLE, 9799).run(200), 9999);
        WaveBridges x = of(EMPTY);
        due("run(1)", x.run(1), 1);
        due("run(200)", x.run(200), 201);
        due("status(2)", x.status(2), 0);

        promise = 39;
        for (int n : new int[] {0, -1, 21, MIN, MAX}) refused(live, 2, "chance(" + n + ")", y -> y.chance(n), NONE);
        refused(new Place(NEVER), 2, "chance(1) without a net", y -> y.chance(1), NONE);
        refused(new Place(to(EMPTY, 3)), 2, "chance(1) of an empty net", y -> y.chance(1), NONE);
        refused(new Place(to(ALONE, 3)), 2, "chance(1) without links", y -> y.chance(1), NONE);
        refused(new Place(to(TRIANGLE, 9984)), 2, "chance(1) at 9984", y -> y.chance(1), NONE);
        refused(new Place(to(TRIANGLE, 9968)), 2, "chance(2) at 9968", y -> y.chance(2), NONE);
        refused(new Place(to(TRIANGLE, 9680)), 2, "chance(20) at 9680", y -> y.chance(20), NONE);
        due("chance(1) at 9983", at(TRIANGLE, 9983).chance(1), 2);
        due("chance(2) at 9967", at(TRIANGLE, 9967).chance(2) != NONE, true);
        due("chance(20) at 9679", at(TRIANGLE, 9679).chance(20) != NONE, true);
        due("chance(20)", of(TRIANGLE).chance(20) != NONE, true);
        due("chance(1)", of(TRIANGLE).chance(1), 2);
    }
    private static WaveBridges at(String text, int step) {
        WaveBridges x = new WaveBridges();
        to(text, step).accept(x);
        due("has(3)", x.has(3), step);
        return x;
    }

    private static void refusedChanges() {
        Place live = new Place(LIVE);
        Place never = new Place(NEVER);
        Place off = live.with(x -> x.stop(2));
        promise = 30;
        for (int l : new int[] {1, 3, -1, MIN, MAX}) refused(live, 3, "cut(" + l + ")", x -> bit(x.cut(l)), 0);
        refused(never, 3, "cut(0)", x -> bit(x.cut(0)), 0);
        promise = 31;
        for (int l : new int[] {0, 2, 3, -1, MIN, MAX}) refused(live, 3, "mend(" + l + ")", x -> bit(x.mend(l)), 0);
        refused(never, 3, "mend(0)", x -> bit(x.mend(0)), 0);
        promise = 32;
        for (int b : new int[] {2, 3, -1, MIN, MAX}) refused(off, 3, "stop(" + b + ")", x -> bit(x.stop(b)), 0);
        refused(never, 3, "stop(0)", x -> bit(x.stop(0)), 0);
        promise = 33;
        for (int b : new int[] {0, 1, 3, -1, MIN, MAX}) refused(off, 3, "start(" + b + ")", x -> bit(x.start(b)), 0);
        refused(never, 3, "start(0)", x -> bit(x.start(0)), 0);
        promise = 34;
        int[][] prios = {{0, 1}, {2, 3}, {0, 16}, {0, -1}, {0, MIN}, {0, MAX}, {3, 5}, {-1, 5}, {MIN, 5}, {MAX, 5}};
        for (int[] p : prios) {
            refused(live, 3, "prio(" + p[0] + ", " + p[1] + ")", x -> bit(x.prio(p[0], p[1])), 0);
            refused(off, 3, "prio(" + p[0] + ", " + p[1] + ")", x -> bit(x.prio(p[0], p[1])), 0);
        }
        refused(never, 3, "prio(0, 0)", x -> bit(x.prio(0, 0)), 0);
        promise = 35;
        for (int b : new int[] {3, -1, MIN, MAX}) refused(live, 3, "turn(" + b + ")", x -> x.turn(b), NONE);
        refused(never, 3, "turn(0)", x -> x.turn(0), NONE);
        promise = 36;
        int[][] moves = {{0, 0}, {2, 2}, {0, 3}, {0, -1}, {0, MIN}, {0, MAX}, {3, 0}, {-1, 0}, {MIN, 0}, {MAX, 0}};
        for (int[] m : moves) refused(live, 3, "move(" + m[0] + ", " + m[1] + ")", x -> bit(x.move(m[0], m[1])), 0);
        refused(never, 3, "move(0, 0)", x -> bit(x.move(0, 0)), 0);
        promise = 37;
        int[][] sends = {{0, 0}, {2, 2}, {0, 3}, {3, 0}, {3, 3}, {0, -1}, {-1, 0}, {MIN, 0}, {0, MIN}, {MAX, 0}, {0, MAX}};
        for (int[] s : sends) refused(live, 4, "send(" + s[0] + ", " + s[1] + ")", x -> x.send(s[0], s[1]), NONE);
        refused(never, 4, "send(0, 1)", x -> x.send(0, 1), NONE);
        promise = 40;
        refused(never, 4, "undo()", x -> bit(x.undo()), 0);
        refused(new Place(x -> tell(x, TRIANGLE)), 4, "undo() without an ACT", x -> bit(x.undo()), 0);
        refused(new Place(LIVE.andThen(x -> { while (x.has(11) > 0) x.undo(); })), 4, "undo() of all undone", x -> bit(x.undo()), 0);
        promise = 41;
        for (int s : new int[] {-1, -2, MIN}) refused(live, 5, "seed(" + s + ")", x -> bit(x.seed(s)), 0);
        refused(never, 5, "seed(-1)", x -> bit(x.seed(-1)), 0);
        for (int s : new int[] {0, 1, MAX}) {
            WaveBridges x = new WaveBridges();
            due("seed(" + s + ")", x.seed(s), true);
            due("has(12)", x.has(12), s);
            due("status(5)", x.status(5), 0);
        }
    }

    private static int check(int[] bytes, int n) {
        int c = 151;
        for (int k = 0; k < n; k++) c = (3 * c + bytes[k]) % 251;
        return c;
    }

    private static void refusedSights() {
        promise = 25;
        int[] row = {0, 0, 2};
        for (int n : new int[] {-1, 81, MIN, MAX}) refusedTape(LIVE, 5, "see(" + n + ")", row, x -> x.see(n), NONE);
        int[][] bad = {{}, {0}, {0, 0}, {0, 0, 0, 0}, {0, 0, 0, 0, 0}, {3, 0, 0}, {255, 0, 0}, {0, 2, 0}, {0, 255, 0}, {0, 0, 5}, {0, 0, 255},
            {0, 0, 0, 3, 0, 0}, {0, 0, 0, 0, 2, 0}, {0, 0, 0, 0, 0, 5}, new int[51], new int[49]};
        for (int[] tape : bad) refusedTape(LIVE, 5, "see(0) of " + Arrays.toString(tape), tape, x -> x.see(0), NONE);
        refusedTape(NEVER, 5, "see(0) without a net", row, x -> x.see(0), NONE);
        refusedTape(x -> tell(x, EMPTY), 5, "see(0) of an empty net", row, x -> x.see(0), NONE);
        refusedTape(x -> tell(x, ALONE), 5, "see(0) without ports", row, x -> x.see(0), NONE);
        int[][] good = {{2, 1, 4}, {0, 0, 0}, new int[48], {2, 1, 0, 2, 1, 1}};
        for (int[] tape : good) {
            for (int n : new int[] {0, 80}) {
                WaveBridges x = new WaveBridges();
                live(x);
                int acts = x.has(11);
                put(x, tape);
                due("see(" + n + ")", x.see(n), tape.length / 3);
                due("has(10)", x.has(10), tape.length / 3);
                due("status(5)", x.status(5), 0);
                due("it is no ACT", x.has(11), acts);
                due("the tape is gone", x.end(1), false);
            }
        }
        // Bridges that are off, ports that are not UP can be seen.
        WaveBridges y = new WaveBridges();
        live(y);
        y.stop(2);
        put(y, 2, 0, 0, 2, 1, 0);
        due("see(3)", y.see(3), 2);
        due("suspect(-1)", y.suspect(-1), 3);

        promise = 44;
        WaveBridges live = new WaveBridges();
        live(live);
        int[] image = new int[live.image()];
        due("image()", image.length, 16);
        for (int k = 0; k < image.length; k++) image[k] = live.octet(k);
        List<int[]> wrongOnes = new ArrayList<>();
        wrongOnes.add(new int[0]);
        wrongOnes.add(Arrays.copyOf(image, 15));
        wrongOnes.add(Arrays.copyOf(image, 17));
        for (int k = 0; k < 16; k++) {
            boolean prio = k < 9 && k % 3 == 1;
            int first = k == 15 ? (image[15] + 1) % 256 : prio ? 16 : k < 12 ? 2 : 3;
            for (int value : new int[] {first, 255}) {
                int[] b = image.clone();
                b[k] = value;
                if (k < 15) b[15] = check(b, 15);
                wrongOnes.add(b);
            }
            if (k == 15) continue;
            // The last value that is allowed.
            int[] b = image.clone();
            b[k] = first - 1;
            b[15] = check(b, 15);
            WaveBridges x = new WaveBridges();
            live(x);
            put(x, b);
            due("on() with " + (first - 1) + " at " + k, x.on(), true);
            due("status(5)", x.status(5), 0);
            x.image();
            for (int j = 0; j < 16; j++) due("octet(" + j + ")", x.octet(j), b[j]);
            // Right but for the last byte.
            b[15] = (b[15] + 1) % 251;
            wrongOnes.add(b);
        }
        for (int[] b : wrongOnes) refusedTape(LIVE, 5, "on() of " + Arrays.toString(b), b, x -> bit(x.on()), 0);
        refusedTape(NEVER, 5, "on() without a net", new int[] {151}, x -> bit(x.on()), 0);
        refusedTape(x -> tell(x, EMPTY), 5, "on() of another net", image, x -> bit(x.on()), 0);
    }

    // ---- behind net() and on() all is as at first

    private static void allAsAtFirst() {
        promise = 4;
        Consumer<WaveBridges> again = LIVE.andThen(x -> tell(x, TRIANGLE));
        Consumer<WaveBridges> fresh = x -> { live(x); x.seed(x.has(12)); };
        List<String> got = told(again);
        List<String> want = told(x -> { tell(x, TRIANGLE); x.seed(77); });
        same("net() anew", got, want, "octet");
        due("net() changes what was", told(fresh).equals(want), false);
        WaveBridges x = new WaveBridges();
        live(x);
        x.image();
        int last = x.octet(15);
        tell(x, EMPTY);
        due("octet(15) of the latest image() stays", x.octet(15), last);
        due("octet(16)", x.octet(16), NONE);
        promise = 44;
        // An image of what is at first: SEEN, FRAMES told, the seed and the image stay, all else is as at first.
        WaveBridges y = of(TRIANGLE);
        int[] image = new int[y.image()];
        for (int k = 0; k < image.length; k++) image[k] = y.octet(k);
        List<String> on = told(LIVE.andThen(z -> { put(z, image); due("on()", z.on(), true); }));
        List<String> first = told(z -> {
            tell(z, TRIANGLE);
            z.seed(77);
            put(z, 2, 1, 3, 0, 0, 2);
            z.see(5);
        });
        for (int k = 0; k < first.size(); k++) {
            if (first.get(k).startsWith("frame") || first.get(k).startsWith("octet")) continue;
            if (!on.get(k).equals(first.get(k))) due("behind on() " + on.get(k) + ", due is " + first.get(k), 0, 1);
        }
        WaveBridges z = new WaveBridges();
        live(z);
        int[] frame = {z.frame(0), z.frame(1), z.frame(2)};
        put(z, image);
        z.on();
        for (int k = 0; k < 3; k++) due("frame(" + k + ") stays", z.frame(k), frame[k]);
        due("frame(0)", frame[0], 1);
    }

    // ---- the last that is allowed, the first that is not

    private static void fullNet() {
        WaveBridges x = of(FULL);
        x.run(100);
        promise = 6;
        int[] has = {8, 14, 8, 100};
        for (int k = 0; k < 4; k++) due("has(" + k + ")", x.has(k), has[k]);
        for (int what : new int[] {-1, MIN, 13, MAX}) due("has(" + what + ")", x.has(what), NONE);
        promise = 7;
        due("letter(0, 7, 5)", x.letter(0, 7, 5), 26);
        due("letter(0, 0, 5)", x.letter(0, 0, 5), 19);
        due("letter(1, 7, 5)", x.letter(1, 7, 5), 26);
        due("letter(0, 7, 0)", x.letter(0, 7, 0), 2);
        due("letter(1, 7, 0)", x.letter(1, 7, 0), 8);
        int[][] letters = {{0, 7, 6}, {0, 7, -1}, {0, 8, 0}, {0, -1, 0}, {1, 7, 6}, {1, 7, -1}, {1, 8, 0}, {1, -1, 0}, {2, 0, 0}, {-1, 0, 0},
            {MIN, 0, 0}, {0, MIN, 0}, {0, 0, MIN}, {MAX, 0, 0}, {0, MAX, 0}, {0, 0, MAX}};
        for (int[] l : letters) due("letter" + Arrays.toString(l), x.letter(l[0], l[1], l[2]), NONE);
        promise = 8;
        due("link(13, 4)", x.link(13, 4), 1);
        due("link(13, 7)", x.link(13, 7) != NONE, true);
        int[][] links = {{14, 0}, {-1, 0}, {MIN, 0}, {MAX, 0}, {13, 8}, {13, -1}, {0, MIN}, {0, MAX}};
        for (int[] l : links) due("link" + Arrays.toString(l), x.link(l[0], l[1]), NONE);
        promise = 9;
        due("bridge(7, 0)", x.bridge(7, 0), 247);
        due("bridge(0, 0)", x.bridge(0, 0), 240);
        due("bridge(0, 1)", x.bridge(0, 1), 6);
        due("bridge(7, 8)", x.bridge(7, 8), 0);
        int[][] bridges = {{8, 0}, {-1, 0}, {MIN, 0}, {MAX, 0}, {7, 9}, {7, -1}, {0, MIN}, {0, MAX}};
        for (int[] b : bridges) due("bridge" + Arrays.toString(b), x.bridge(b[0], b[1]), NONE);
        promise = 10;
        due("port(0, 5, 0)", x.port(0, 5, 0), 2);
        due("port(0, 5, 9)", x.port(0, 5, 9) != NONE, true);
        int ports = x.bridge(7, 1);
        due("port(7, last, 0)", x.port(7, ports - 1, 0) != NONE, true);
        int[][] all = {{0, 6, 0}, {0, -1, 0}, {7, ports, 0}, {8, 0, 0}, {-1, 0, 0}, {0, 5, 10}, {0, 5, -1}, {MIN, 0, 0}, {0, MIN, 0}, {0, 0, MIN},
            {MAX, 0, 0}, {0, MAX, 0}, {0, 0, MAX}};
        for (int[] p : all) due("port" + Arrays.toString(p), x.port(p[0], p[1], p[2]), NONE);
        promise = 11;
        due("held(1, 0, 0)", x.held(1, 0, 0), 240);
        due("held(1, 0, 5)", x.held(1, 0, 5) != NONE, true);
        due("held(0, 5, 0): it HOLDS nothing", x.held(0, 5, 0), NONE);
        for (int[] p : all) due("held" + Arrays.toString(p), x.held(p[0], p[1], p[2]), NONE);
        for (int what : new int[] {6, -1, MIN, MAX}) due("held(1, 0, " + what + ")", x.held(1, 0, what), NONE);
        fullNetQuestions(of(FULL));
        fullNetActs();
    }

    private static void fullNetQuestions(WaveBridges x) {
        x.run(100);
        promise = 12;
        x.send(7, 0);
        due("address(7, 7, 0)", x.address(7, 7, 0), 6);
        due("address(7, 7, 1)", x.address(7, 7, 1), 0);
        due("address(0, 7, 0)", x.address(0, 7, 0) != NONE, true);
        int[][] addresses = {{7, 7, 2}, {7, 7, -1}, {8, 7, 0}, {7, 8, 0}, {-1, 7, 0}, {7, -1, 0}, {MIN, 0, 0}, {0, MIN, 0}, {7, 7, MIN},
            {MAX, 0, 0}, {0, MAX, 0}, {7, 7, MAX}, {0, 0, 0}};
        for (int[] a : addresses) due("address" + Arrays.toString(a), x.address(a[0], a[1], a[2]), NONE);
        promise = 15;
        due("due(7, 0)", x.due(7, 0), 240);
        due("due(7, 2)", x.due(7, 2) != NONE, true);
        int[][] dues = {{8, 0}, {-1, 0}, {MIN, 0}, {MAX, 0}, {7, 3}, {7, -1}, {0, MIN}, {0, MAX}};
        for (int[] d : dues) due("due" + Arrays.toString(d), x.due(d[0], d[1]), NONE);
        promise = 16;
        due("role(0, 5)", x.role(0, 5), 2);
        int[][] roles = {{0, 6}, {0, -1}, {8, 0}, {-1, 0}, {MIN, 0}, {MAX, 0}, {0, MIN}, {0, MAX}};
        for (int[] r : roles) due("role" + Arrays.toString(r), x.role(r[0], r[1]), NONE);
        promise = 21;
        due("joined(7, 7)", x.joined(7, 7), 0);
        due("joined(0, 7)", x.joined(0, 7) > 0, true);
        int[][] pairs = {{8, 7}, {7, 8}, {8, 8}, {-1, 7}, {7, -1}, {-1, -1}, {MIN, 0}, {0, MIN}, {MAX, 0}, {0, MAX}};
        for (int[] p : pairs) due("joined" + Arrays.toString(p), x.joined(p[0], p[1]), NONE);
        promise = 22;
        due("leads(7, 7)", x.leads(7, 7), 0);
        due("leads(0, 7)", x.leads(0, 7) > 0, true);
        for (int[] p : pairs) due("leads" + Arrays.toString(p), x.leads(p[0], p[1]), NONE);
        promise = 23;
        due("heal(13)", x.heal(13) != NONE, true);
        for (int l : new int[] {14, -1, MIN, MAX}) due("heal(" + l + ")", x.heal(l), NONE);
        promise = 26;
        due("suspect(-1): 14 LINKS, or none", x.suspect(-1), 15);
        for (int k = 0; k < 15; k++) due("suspect(" + k + ")", x.suspect(k), k);
        for (int k : new int[] {15, 16, -2, MIN, MAX}) due("suspect(" + k + ")", x.suspect(k), NONE);
        for (int what : new int[] {-1, MIN, MAX, 2, 3}) {
            promise = 19;
            due("ring(" + what + ")", x.ring(what), NONE);
            promise = 24;
            due("worst(" + what + ")", x.worst(what), NONE);
            promise = 27;
            if (what != 2) due("tells(" + what + ")", x.tells(what), NONE);
            promise = 28;
            if (what != 2) due("centre(" + what + ")", x.centre(what), NONE);
            promise = 38;
            if (what != 2) due("frame(" + what + ")", x.frame(what), NONE);
        }
        promise = 27;
        for (int k = 0; k < 3; k++) due("tells(" + k + ")", x.tells(k) != NONE, true);
        promise = 20;
        for (int n : new int[] {1, 200}) due("rings(" + n + ")", x.rings(n) != NONE, true);
        for (int n : new int[] {0, -1, 201, MIN, MAX}) due("rings(" + n + ")", x.rings(n), NONE);
        promise = 42;
        due("image()", x.image(), 47);
        promise = 43;
        due("octet(46)", x.octet(46) != NONE, true);
        for (int k : new int[] {47, -1, MIN, MAX}) due("octet(" + k + ")", x.octet(k), NONE);
        promise = 45;
        for (int k = 0; k < 6; k++) due("status(" + k + ")", x.status(k), 0);
        for (int what : new int[] {6, -1, MIN, MAX}) due("status(" + what + ")", x.status(what), NONE);
    }

    private static void fullNetActs() {
        WaveBridges x = of(FULL);
        promise = 30;
        due("cut(13)", x.cut(13), true);
        due("cut(14)", x.cut(14), false);
        promise = 31;
        due("mend(13)", x.mend(13), true);
        due("mend(14)", x.mend(14), false);
        promise = 32;
        due("stop(7)", x.stop(7), true);
        due("stop(8)", x.stop(8), false);
        promise = 33;
        due("start(7)", x.start(7), true);
        due("start(8)", x.start(8), false);
        promise = 34;
        due("prio(7, 0)", x.prio(7, 0), true);
        due("bridge(7, 0)", x.bridge(7, 0), 7);
        due("prio(7, 15)", x.prio(7, 15), true);
        due("bridge(7, 0)", x.bridge(7, 0), 247);
        due("prio(8, 0)", x.prio(8, 0), false);
        due("prio(0, 0)", x.prio(0, 0), true);
        due("bridge(0, 0)", x.bridge(0, 0), 0);
        promise = 35;
        due("turn(7)", x.turn(7), 1);
        due("turn(7)", x.turn(7), 0);
        due("turn(8)", x.turn(8), NONE);
        promise = 36;
        due("move(7, 0)", x.move(7, 0), true);
        due("move(0, 7)", x.move(0, 7), true);
        due("move(8, 0)", x.move(8, 0), false);
        due("move(0, 8)", x.move(0, 8), false);
        promise = 37;
        due("send(7, 0)", x.send(7, 0), 0);
        due("send(0, 7)", x.send(0, 7), 0);
        due("send(7, 8)", x.send(7, 8), NONE);
        due("send(8, 7)", x.send(8, 7), NONE);
        promise = 45;
        int[] want = {0, 0, 0, 8, 2, 0};
        for (int k = 0; k < 6; k++) due("status(" + k + ")", x.status(k), want[k]);
    }

    // ---- no net, an empty net, a net without links

    private static void nothing() {
        int[][] few = {{0, 0}, {0, 1}, {1, 0}};
        for (String text : new String[] {null, EMPTY, ALONE}) {
            boolean told = text != null;
            WaveBridges x = told ? of(text) : new WaveBridges();
            boolean alone = ALONE.equals(text);
            promise = 6;
            int[] has = {bit(alone), 0, alone ? 2 : 0, 0, 0, bit(alone), 0, 0, 0, 0, 0, 0, 1};
            for (int k = 0; k < 13; k++) due("has(" + k + ") of " + text, x.has(k), has[k]);
            promise = 7;
            due("letter(0, 0, 0) of " + text, x.letter(0, 0, 0), alone ? 1 : NONE);
            due("letter(1, 1, 0) of " + text, x.letter(1, 1, 0), alone ? 7 : NONE);
            promise = 8;
            due("link(0, 0)", x.link(0, 0), NONE);
            promise = 9;
            int[] row = {16, 0, 0, 1, 16, 0, NONE, 0, 0};
            for (int k = 0; k < 9; k++) due("bridge(0, " + k + ") of " + text, x.bridge(0, k), alone ? row[k] : NONE);
            promise = 10;
            due("port(0, 0, 0)", x.port(0, 0, 0), NONE);
            promise = 11;
            due("held(0, 0, 0)", x.held(0, 0, 0), NONE);
            promise = 12;
            due("address(0, 0, 0)", x.address(0, 0, 0), NONE);
            promise = 13;
            for (int[] f : few) due("message(" + f[0] + ", " + f[1] + ")", x.message(f[0], f[1]), NONE);
            promise = 14;
            for (int[] f : few) due("kept(" + f[0] + ", " + f[1] + ")", x.kept(f[0], f[1]), NONE);
            promise = 15;
            int[] duty = {16, 0, NONE, NONE};
            for (int k = 0; k < 4; k++) due("due(0, " + k + ") of " + text, x.due(0, k), alone ? duty[k] : NONE);
            promise = 16;
            due("role(0, 0)", x.role(0, 0), NONE);
            promise = 17;
            due("rests()", x.rests(), true);
            promise = 18;
            due("when() of " + text, x.when(), told ? 0 : NONE);
            promise = 19;
            due("ring(0)", x.ring(0), 0);
            due("ring(1)", x.ring(1), NONE);
            promise = 20;
            due("rings(1) of " + text, x.rings(1), told ? 0 : NONE);
            due("rings(200) of " + text, x.rings(200), told ? 0 : NONE);
            due("rings(0)", x.rings(0), NONE);
            due("rings(201)", x.rings(201), NONE);
            promise = 21;
            due("joined(0, 0) of " + text, x.joined(0, 0), alone ? 0 : NONE);
            promise = 22;
            due("leads(0, 0)", x.leads(0, 0), NONE);
            promise = 23;
            due("heal(0)", x.heal(0), NONE);
            promise = 24;
            due("worst(0)", x.worst(0), NONE);
            due("worst(1)", x.worst(1), NONE);
            promise = 26;
            due("suspect(-1) of " + text, x.suspect(-1), told ? 1 : NONE);
            due("suspect(0): none is cut", x.suspect(0), told ? 0 : NONE);
            due("suspect(1)", x.suspect(1), NONE);
            promise = 27;
            for (int k = 0; k < 3; k++) due("tells(" + k + ")", x.tells(k), NONE);
            promise = 28;
            int[] centre = {0, 1, 0};
            for (int k = 0; k < 3; k++) due("centre(" + k + ") of " + text, x.centre(k), alone ? centre[k] : NONE);
            promise = 38;
            for (int k = 0; k < 3; k++) due("frame(" + k + ")", x.frame(k), NONE);
            promise = 43;
            due("octet(0) ahead of image()", x.octet(0), NONE);
            promise = 42;
            due("image() of " + text, x.image(), alone ? 6 : 1);
            promise = 43;
            if (!alone) due("octet(0)", x.octet(0), 151);
            due("octet(6)", x.octet(6), NONE);
            due("octet(1) of " + text, x.octet(1), alone ? 1 : NONE);
            promise = 45;
            for (int k = 0; k < 6; k++) due("status(" + k + ")", x.status(k), 0);
        }
        promise = 44;
        WaveBridges e = of(EMPTY);
        e.run(7);
        put(e, 151);
        due("on() of an empty net", e.on(), true);
        due("has(3)", e.has(3), 0);
        due("has(11)", e.has(11), 0);
        promise = 37;
        WaveBridges a = of(ALONE);
        due("send(0, 1) at one bridge", a.send(0, 1), 1);
        due("frame(1)", a.frame(1), 0);
        a.stop(0);
        promise = 28;
        due("centre(0) when none is ON", a.centre(0), NONE);
        promise = 42;
        // (3 151 + 0) mod 251 = 202, (606 + 1) mod 251 = 105, 315 mod 251 = 64, 192, 576 mod 251 = 74.
        due("image()", a.image(), 6);
        int[] image = {0, 1, 0, 0, 0, 74};
        for (int k = 0; k < 6; k++) due("octet(" + k + ")", a.octet(k), image[k]);
    }

    /** The most calls that one object is promised for, all of them refused: every one is counted. */
    private static void counts() {
        promise = 45;
        WaveBridges x = new WaveBridges();
        for (int k = 0; k < MOST_CALLS - 2; k++) {
            if (k % 2 == 0) x.cut(k); else x.turn(-k);
        }
        due("status(3)", x.status(3), MOST_CALLS - 2);
        due("status(2)", x.status(2), 0);
        // What is not refused is not counted, nor are questions without an answer.
        WaveBridges y = of(TRIANGLE);
        y.run(3);
        y.cut(0);
        y.mend(0);
        y.stop(0);
        y.start(0);
        y.prio(0, 9);
        y.turn(0);
        y.move(0, 1);
        y.send(0, 1);
        y.undo();
        y.seed(3);
        y.chance(1);
        y.rings(0);
        y.heal(9);
        y.link(99, 0);
        y.suspect(99);
        y.octet(99);
        y.has(99);
        y.status(99);
        y.rings(201);
        for (int k = 0; k < 6; k++) due("status(" + k + ")", y.status(k), 0);
        // The counts stay with net().
        y.cut(-1);
        y.run(0);
        tell(y, EMPTY);
        due("status(2)", y.status(2), 1);
        due("status(3)", y.status(3), 1);
    }

    public static void main(String[] args) {
        nothing();
        refusedTapes();
        refusedSteps();
        refusedChanges();
        refusedSights();
        allAsAtFirst();
        fullNet();
        counts();
        System.out.println(wrong == 0 ? "all answers are as due" : wrong + " answers are not as due");
        if (wrong != 0) System.exit(1);
    }
}

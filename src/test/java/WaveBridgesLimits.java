/**
 * The boundaries of 'Terms' II and III: ticks, lives, ages, waits, what is kept, passed and undone at the most, how many
 * steps ahead are looked at; each at the last value that is allowed and at the first that is not.
 */
public final class WaveBridgesLimits {
    private static final int NONE = WaveBridges.NONE;
    // IDs 16 and 1: b is the root; port 0 of each is on the link.
    private static final String PAIR =
            "net age 6 delay 2;bridge a prio 1;bridge b prio 0;link a to b cost 5 takes 1;host h at a;host g at b;";
    private static final String TRIANGLE = "net age 6 delay 2;bridge a prio 1;bridge b prio 2;bridge c prio 3;"
            + "link a to b cost 1 takes 1;link a to c cost 1 takes 3;link b to c cost 1 takes 2;"
            + "host h at a;host g at b;host f at c;";
    // Three links between b and c, the root a behind one of them: what was heard of a goes around until it is too old.
    private static final String AROUND = "bridge a prio 11;bridge b prio 15;bridge c prio 15 old;link b to c cost 5 takes 3;"
            + "link c to a cost 5 takes 3;link c to b cost 3 takes 2;link b to c cost 4 takes 1;";
    private static final String AROUND_LATER = "bridge a prio 7;bridge b prio 8 old;bridge c prio 11;link c to b cost 4 takes 3;"
            + "link c to b cost 5 takes 2;link a to b cost 1 takes 2;link c to b cost 2 takes 1;";
    private static final String AROUND_LAST = "bridge a prio 5;bridge b prio 15 old;bridge c prio 5;link b to c cost 1 takes 1;"
            + "link b to c cost 5 takes 3;link b to c cost 3 takes 2;link a to b cost 1 takes 1;";
    private static final String SLOW = "net age 20 delay 9;";

    private static int wrong = 0;
    private static int promise = 0;

    private static void due(String call, long got, long want) {
        if (got != want) {
            wrong++;
            System.out.println("promise " + promise + ": " + call + " answered " + got + ", due is " + want);
        }
    }
    private static void due(String call, boolean got, boolean want) { due(call, got ? 1 : 0, want ? 1 : 0); }

    private static void put(WaveBridges x, int... bytes) {
        for (int at = 0; at < bytes.length; at += 20) {
            int[] v = new int[5];
            for (int k = 0; k < 20; k++) v[k / 4] = v[k / 4] << 8 | (at + k < bytes.length ? bytes[at + k] & 255 : 0);
            x.feed(v[0], v[1], v[2], v[3], v[4]);
        }
        x.end(bytes.length);
    }
    private static WaveBridges of(String text) {
        WaveBridges x = new WaveBridges();
        put(x, text.chars().toArray());
        if (x.net() == NONE) due("net() of " + text, NONE, 1);
        return x;
    }
    private static WaveBridges of(String text, int steps) {
        WaveBridges x = of(text);
        for (int left = steps; left > 0; left -= 200) x.run(Math.min(200, left));
        return x;
    }
    private static void row(String what, java.util.function.IntUnaryOperator asked, int... want) {
        for (int k = 0; k < want.length; k++) due(what + k + ")", asked.applyAsInt(k), want[k]);
    }
    /** The same three bridges a second time, with names of their own. */
    private static String second(String three) {
        return three.replace("bridge a", "bridge d").replace("bridge b", "bridge e").replace("bridge c", "bridge f")
                .replace("link a", "link d").replace("link b", "link e").replace("link c", "link f")
                .replace("to a", "to d").replace("to b", "to e").replace("to c", "to f");
    }

    // ---- ticks and what they count

    /** A TICK in each STEP that is a multiple of 8, the first one in STEP 0. */
    private static void ticks() {
        promise = 10;
        WaveBridges x = of(SLOW + "bridge a prio 1 old;bridge b prio 2 old;link a to b cost 1 takes 1;");
        due("WAIT at first: the delay", x.port(0, 0, 2), 9);
        x.run(1);
        due("WAIT behind STEP 0", x.port(0, 0, 2), 8);
        x.run(7);
        due("WAIT behind STEP 7", x.port(0, 0, 2), 8);
        x.run(1);
        due("WAIT behind STEP 8", x.port(0, 0, 2), 7);
        x.run(8 * 8 - 9);
        due("WAIT behind STEP 63", x.port(0, 0, 2), 1);
        due("SHUT", x.port(0, 0, 1), 0);
        x.run(1);
        due("WAIT behind STEP 64: the delay again", x.port(0, 0, 2), 9);
        due("LEARNING", x.port(0, 0, 1), 1);
        x.run(71);
        due("WAIT behind STEP 135", x.port(0, 0, 2), 1);
        due("LEARNING", x.port(0, 0, 1), 1);
        x.run(1);
        due("WAIT behind STEP 136", x.port(0, 0, 2), 0);
        due("OPEN", x.port(0, 0, 1), 2);
        promise = 14;
        int[][] kept = {{64, 0, 0, 1}, {64, 1, 0, 1}, {136, 0, 0, 2}, {136, 1, 0, 2}};
        for (int n = 0; n < 4; n++) { int one = n; row("kept(" + n + ", ", k -> x.kept(one, k), kept[n]); }
        // The least delay: LEARNING in STEP 0, OPEN in STEP 8.
        WaveBridges y = of("net age 2 delay 1;bridge a prio 1 old;bridge b prio 2 old;link a to b cost 1 takes 1;", 9);
        int[][] soon = {{0, 0, 0, 1}, {0, 1, 0, 1}, {8, 0, 0, 2}, {8, 1, 0, 2}};
        for (int n = 0; n < 4; n++) { int one = n; row("kept(" + n + ", ", k -> y.kept(one, k), soon[n]); }
    }

    /** A CHANGE is 2 TICKS long. */
    private static void change() {
        promise = 10;
        WaveBridges x = of(PAIR, 8);
        due("CHANGE ahead of a TICK", x.port(0, 0, 3), 2);
        x.run(1);
        due("CHANGE behind one", x.port(0, 0, 3), 1);
        x.run(7);
        due("CHANGE ahead of the second one", x.port(0, 0, 3), 1);
        x.run(1);
        due("CHANGE behind the second one", x.port(0, 0, 3), 0);
        x.run(8);
        due("CHANGE stays 0", x.port(0, 0, 3), 0);
    }

    /** LIFE 3: behind three TICKS without another one what a PORT HOLDS goes. */
    private static void life() {
        promise = 11;
        // Each heard of the other one as of a better root, before b got a worse PRIO: both turn to one another, none tells.
        WaveBridges x = of(PAIR, 1);
        x.prio(1, 15);
        x.run(1);
        due("a's ROLE", x.port(0, 0, 0), 1);
        due("b's ROLE", x.port(1, 0, 0), 1);
        row("held(0, 0, ", k -> x.held(0, 0, k), 1, 0, 1, 0, 0, 3);
        row("held(1, 0, ", k -> x.held(1, 0, k), 16, 0, 16, 0, 0, 3);
        x.run(6);
        due("LIFE ahead of STEP 8", x.held(0, 0, 5), 3);
        x.run(1);
        due("LIFE behind STEP 8", x.held(0, 0, 5), 2);
        x.run(8);
        due("LIFE behind STEP 16", x.held(0, 0, 5), 1);
        x.run(7);
        due("LIFE behind STEP 23", x.held(0, 0, 5), 1);
        due("a's root", x.bridge(0, 4), 1);
        x.run(1);
        row("held(0, 0, ", k -> x.held(0, 0, k), NONE, NONE, NONE, NONE, NONE, NONE);
        due("a CHOOSES: it is its own root", x.bridge(0, 4), 16);
        due("b CHOOSES", x.bridge(1, 4), 241);
        due("a's ROLE", x.port(0, 0, 0), 2);
    }

    /** What is heard is a bridge older each time; AGE and 1 more than the net's age is not heard. */
    private static void age() {
        promise = 9;
        String chain = "bridge a prio 0;bridge b prio 1;bridge c prio 2;bridge d prio 3;bridge e prio 4;link a to b cost 1 takes 1;"
                + "link b to c cost 1 takes 1;link c to d cost 1 takes 1;link d to e cost 1 takes 1;";
        for (int age = 2; age <= 5; age++) {
            WaveBridges x = of("net age " + age + " delay 1;" + chain, 12);
            for (int b = 1; b < 5; b++) {
                due("bridge(" + b + ", 4) with age " + age, x.bridge(b, 4), b <= age ? 0 : 17 * b > 17 * (age + 1) ? 17 * (age + 1) : 17 * b);
                due("bridge(" + b + ", 7) with age " + age, x.bridge(b, 7), b <= age ? b : b - age - 1);
            }
        }
        // What goes around without a root gets as old as it may, and dies.
        WaveBridges x = of(SLOW + AROUND, 9);
        x.cut(1);
        x.run(163);
        due("the oldest AGE of b", x.bridge(1, 7), 20);
        due("the oldest AGE of c", x.bridge(2, 7), 19);
        due("b's root is not there", x.bridge(1, 4), 176);
        x.run(20);
        due("LIFE is not over", x.bridge(1, 7), 20);
        x.run(1);
        due("b's AGE", x.bridge(1, 7), 0);
        due("c's AGE", x.bridge(2, 7), 0);
        due("b's root", x.bridge(1, 4), 241);
        promise = 11;
        // x turns to the longer way: that is too old for y, which lets go what it HOLDS.
        String way = "bridge r prio 0;bridge x prio 2;bridge z prio 1;bridge y prio 3;link r to x cost 1 takes 1;link r to z cost 1 takes 1;"
                + "link z to x cost 1 takes 1;link x to y cost 1 takes 1;";
        WaveBridges short2 = of("net age 2 delay 1;" + way, 20);
        WaveBridges long3 = of("net age 3 delay 1;" + way, 20);
        for (WaveBridges y : new WaveBridges[] {short2, long3}) {
            due("held(3, 0, 4)", y.held(3, 0, 4), 1);
            due("bridge(3, 7)", y.bridge(3, 7), 2);
            y.cut(0);
            due("bridge(1, 7)", y.bridge(1, 7), 2);
            due("bridge(3, 4) until it hears", y.bridge(3, 4), 0);
            y.run(2);
        }
        due("held(3, 0, 4) with age 2", short2.held(3, 0, 4), NONE);
        due("bridge(3, 4) with age 2", short2.bridge(3, 4), 51);
        due("bridge(3, 7) with age 2", short2.bridge(3, 7), 0);
        due("held(3, 0, 4) with age 3", long3.held(3, 0, 4), 2);
        due("bridge(3, 4) with age 3", long3.bridge(3, 4), 0);
        due("bridge(3, 7) with age 3", long3.bridge(3, 7), 3);
    }

    /** SHORT is age and delay together, at most 29, at least 3. */
    private static void shortTime() {
        promise = 9;
        WaveBridges x = of(SLOW + "bridge a prio 1 old;bridge b prio 2 old;link a to b cost 1 takes 1;", 136);
        due("SHORT ahead of the opening", x.bridge(1, 8), 0);
        x.run(1);
        due("SHORT", x.bridge(1, 8), 29);
        WaveBridges y = of("net age 2 delay 1;bridge a prio 1 old;bridge b prio 2 old;link a to b cost 1 takes 1;", 9);
        due("SHORT", y.bridge(1, 8), 3);
        WaveBridges n = of(PAIR, 9);
        due("SHORT of one that is not old", n.bridge(0, 8), 0);
        promise = 12;
        // While SHORT is not 0 addresses older than the delay, 1, go; in the TICK that brings it to 0 they stay.
        String two = "net age 2 delay 1;bridge a prio 1 old;bridge b prio 2 old;link a to b cost 1 takes 1;host h at a;host g at b;";
        for (int left = 3; left >= 2; left--) {
            WaveBridges z = of(two, left == 3 ? 18 : 25);
            due("SHORT", z.bridge(1, 8), left);
            z.send(1, 0);
            toTick(z);
            row("address(1, 1, ", k -> z.address(1, 1, k), 6, 1);
            due("SHORT", z.bridge(1, 8), left - 1);
            toTick(z);
            due("SHORT", z.bridge(1, 8), left - 2);
            row("address(1, 1, ", k -> z.address(1, 1, k), left == 2 ? 6 : NONE, left == 2 ? 2 : NONE);
            toTick(z);
            row("address(1, 1, ", k -> z.address(1, 1, k), left == 2 ? 6 : NONE, left == 2 ? 3 : NONE);
        }
    }
    private static void toTick(WaveBridges x) { x.run(8 - (x.has(3) + 7) % 8); }

    /** Addresses go at 30 TICKS, learnt at a PORT or at the host place; one that is heard anew is 0 TICKS old. */
    private static void addressAge() {
        promise = 12;
        WaveBridges x = of(PAIR, 17);
        x.send(0, 1);
        due("at once", x.address(1, 0, 1), 0);
        for (int ticks = 1; ticks <= 29; ticks++) {
            x.run(8);
            due("address(0, 0, 1)", x.address(0, 0, 1), ticks);
            due("address(1, 0, 1)", x.address(1, 0, 1), ticks);
        }
        WaveBridges y = of(PAIR, 17);
        y.send(0, 1);
        for (int k = 0; k < 29; k++) y.run(8);
        y.send(0, 1);
        due("heard anew", y.address(1, 0, 1), 0);
        due("heard anew at the host place", y.address(0, 0, 1), 0);
        y.run(8);
        due("address(1, 0, 1)", y.address(1, 0, 1), 1);
        x.run(7);
        due("30 TICKS are not yet over", x.address(0, 0, 1), 29);
        x.run(1);
        due("30 TICKS", x.address(0, 0, 0), NONE);
        due("30 TICKS", x.address(1, 0, 0), NONE);
        promise = 6;
        due("they were not FLUSHED", x.has(8), 0);
    }

    // ---- what opens, agrees, is flushed

    private static void agreement() {
        promise = 10;
        // b's vector is another one when a's agreement to the one before comes.
        String text = "net age 6 delay 2;bridge a prio 3;bridge b prio 1;link a to b cost 5 takes 1;";
        WaveBridges x = of(text, 2);
        WaveBridges y = of(text, 2);
        y.prio(1, 0);
        x.run(1);
        y.run(1);
        due("AGREED to just that vector", x.port(1, 0, 4), 1);
        due("OPEN", x.port(1, 0, 1), 2);
        due("not AGREED to another one", y.port(1, 0, 4), 0);
        due("SHUT", y.port(1, 0, 1), 0);
        y.run(2);
        due("AGREED to the new one", y.port(1, 0, 4), 1);
        // What an old bridge does not READ leaves its EDGE one.
        WaveBridges e = of("net age 6 delay 2;bridge a prio 1;bridge b prio 2 old;link a edge to b edge cost 1 takes 1;", 2);
        due("a's EDGE: it heard b", e.port(0, 0, 5), 0);
        due("b's EDGE: it did not READ a", e.port(1, 0, 5), 1);
        due("a speaks OLD", e.port(0, 0, 6), 1);
        e.run(1);
        due("b's EDGE: it did", e.port(1, 0, 5), 0);
    }

    private static void flushed() {
        promise = 6;
        String star = "net age 6 delay 2;bridge a prio 1;bridge b prio 2;bridge c prio 3;bridge d prio 4;bridge e prio 5;"
                + "link a to b cost 1 takes 1;link a to c cost 1 takes 1;link a to d cost 1 takes 1;link a to e cost 1 takes 1;"
                + "host h at a;host g at b;host f at c;host k at d;";
        WaveBridges x = of(star, 3);
        x.cut(3);
        x.run(40);
        for (int h = 0; h < 4; h++) x.send(h, (h + 1) % 4);
        due("FLUSHED until now", x.has(8), 0);
        due("a has its own host and three others", x.address(0, 1, 0) + x.address(0, 2, 0) + x.address(0, 3, 0), 3);
        x.mend(3);
        x.run(2);
        due("FLUSHED ahead of the opening at a", x.has(8), 0);
        x.run(1);
        due("FLUSHED: all that a had learnt at other PORTS", x.has(8), 3);
        due("a's own host stays", x.address(0, 0, 0), 6);
        x.run(20);
        due("those who hear of it have what they learnt there still", x.has(8), 3);
        due("b has h", x.address(1, 0, 0), 0);
        x.undo();
        due("undone", x.has(8), 3);
        x.undo();
        due("undone", x.has(8), 0);
        // What was learnt at an EDGE stays: a's port to c opens in STEP 1, while nothing came by the slow link to b.
        WaveBridges y = of("net age 6 delay 2;bridge a prio 2;bridge b prio 3;bridge c prio 1;link a edge to b edge cost 1 takes 3;"
                + "link a to c cost 1 takes 1;host h at a;host g at b;");
        due("send(1, 0)", y.send(1, 0), 1);
        y.run(2);
        due("a's PORT to c is OPEN", y.port(0, 1, 1), 2);
        due("a's PORT to b is an EDGE", y.port(0, 0, 5), 1);
        due("address(0, 1, 0)", y.address(0, 1, 0), 0);
        due("FLUSHED", y.has(8), 0);
        y.run(2);
        due("it is SHUT as it hears b", y.address(0, 1, 0), NONE);
        due("what goes as a PORT SHUTS is not FLUSHED", y.has(8), 0);
    }

    // ---- frames

    /** a = b - c = d - e = f, with 2, 5 and 4 links at '=', all open; with a leaf at a the 65th passing is reached. */
    private static WaveBridges doubling(boolean leaf) {
        StringBuilder t = new StringBuilder("net age 6 delay 2;");
        for (int k = 0; k < 7; k++) t.append("bridge ").append((char) ('a' + k)).append(" prio 1;");
        String ends = "ababbccdcdcdcdcddeefefefef" + (leaf ? "ag" : "");
        for (int k = 0; k < ends.length(); k += 2) {
            t.append("link ").append(ends.charAt(k)).append(" edge to ").append(ends.charAt(k + 1)).append(" edge cost 1 takes 1;");
        }
        WaveBridges x = of(t + "host hh at a;host gg at f;");
        // By one way alone b, d and f learn of gg; then a, c and e forget it, as the links by which they heard are cut.
        int[] spare = {1, 4, 5, 6, 7, 10, 11, 12};
        for (int l : spare) x.cut(l);
        due("send(1, 0)", x.send(1, 0), 1);
        for (int l : spare) x.mend(l);
        for (int l : new int[] {0, 3, 9}) {
            x.cut(l);
            x.mend(l);
        }
        int[] has = {NONE, 2, NONE, 5, NONE, 6};
        for (int b = 0; b < 6; b++) due("address(" + b + ", 1, 0)", x.address(b, 1, 0), has[b]);
        return x;
    }

    private static void frames() {
        promise = 38;
        // 2 + 2 + 10 + 10 + 40 passings.
        WaveBridges x = doubling(false);
        due("send(0, 1)", x.send(0, 1), 40);
        row("frame(", x::frame, 40, 64, 0, NONE);
        // 3 + 2 + 10 + 10 + 40: the 65th is none, and those that wait at f are given up.
        WaveBridges y = doubling(true);
        due("send(0, 1)", y.send(0, 1), 0);
        row("frame(", y::frame, 0, 64, 1, NONE);
        y.undo();
        row("frame(", y::frame, 0, 64, 1, NONE);
        promise = 37;
        // Led by an address it does not go out by the PORT by which it came: b has g at the way to a.
        WaveBridges z = of(PAIR, 3);
        z.send(0, 1);
        z.move(0, 1);
        z.move(1, 0);
        due("send(1, 0): b has h at its way to a", z.send(1, 0), 0);
        row("frame(", z::frame, 0, 0, 0);
        WaveBridges w = of(PAIR, 3);
        w.send(0, 1);
        w.cut(0);
        due("send(1, 0) without a way", w.send(1, 0), 0);
        w.mend(0);
        due("send(1, 0) by SHUT PORTS", w.send(1, 0), 0);
        row("frame(", w::frame, 0, 0, 0);
        // A LEARNING PORT learns, but nothing goes out there: old ones, delay 1, LEARNING from STEP 0 to 8.
        WaveBridges o = of("net age 6 delay 1;bridge a prio 1 old;bridge b prio 2 old;link a edge to b cost 1 takes 3;host h at a;host g at b;", 1);
        due("STATES", 10 * o.port(0, 0, 1) + o.port(1, 0, 1), 21);
        due("send(0, 1)", o.send(0, 1), 0);
        due("frame(1)", o.frame(1), 1);
        due("address(1, 0, 0)", o.address(1, 0, 0), 0);
        due("send(1, 0): it is led to a PORT that is not OPEN", o.send(1, 0), 0);
        due("frame(1)", o.frame(1), 0);
    }

    // ---- what is kept and what may be undone

    private static void kept() {
        promise = 14;
        WaveBridges x = of(PAIR);
        // Each turn has two rows: a opens in its second STEP, b in its third one.
        for (int turn = 0; turn < 20; turn++) {
            if (turn > 0) x.mend(0);
            x.run(3);
            x.cut(0);
            due("has(9)", x.has(9), 2 * turn + 2);
        }
        for (int n = 0; n < 40; n++) { int one = n; row("kept(" + n + ", ", k -> x.kept(one, k), 3 * (n / 2) + 1 + n % 2, n % 2, 0, 2); }
        due("kept(40, 0)", x.kept(40, 0), NONE);
        x.mend(0);
        due("coming UP is not KEPT", x.has(9), 40);
        x.run(2);
        due("has(9)", x.has(9), 40);
        row("kept(0, ", k -> x.kept(0, k), 2, 1, 0, 2, NONE);
        row("kept(39, ", k -> x.kept(39, k), 61, 0, 0, 2, NONE);
        due("kept(40, 0)", x.kept(40, 0), NONE);
        x.run(1);
        row("kept(0, ", k -> x.kept(0, k), 4, 0, 0, 2, NONE);
        row("kept(39, ", k -> x.kept(39, k), 62, 1, 0, 2, NONE);
        x.undo();
        x.undo();
        row("kept(0, ", k -> x.kept(0, k), 1, 0, 0, 2, NONE);
        row("kept(39, ", k -> x.kept(39, k), 59, 1, 0, 2, NONE);
    }

    private static void undone() {
        promise = 40;
        WaveBridges x = of(PAIR);
        for (int k = 1; k <= 20; k++) {
            x.run(1);
            due("has(11)", x.has(11), k);
        }
        for (int k = 19; k >= 0; k--) {
            due("undo()", x.undo(), true);
            due("has(11)", x.has(11), k);
            due("has(3)", x.has(3), k);
        }
        due("undo() of all", x.undo(), false);
        for (int k = 0; k < 21; k++) x.run(1);
        due("has(11)", x.has(11), 20);
        for (int k = 0; k < 20; k++) due("undo()", x.undo(), true);
        due("has(3)", x.has(3), 1);
        due("undo() of a 21st", x.undo(), false);
        due("has(3)", x.has(3), 1);
        due("status(4)", x.status(4), 2);
        // Some undone, others done instead of them.
        WaveBridges y = of(PAIR);
        for (int k = 0; k < 20; k++) y.run(1);
        for (int k = 0; k < 5; k++) y.undo();
        due("has(3)", y.has(3), 15);
        for (int k = 0; k < 10; k++) y.run(2);
        due("has(11)", y.has(11), 20);
        for (int k = 0; k < 20; k++) due("undo()", y.undo(), true);
        due("has(3)", y.has(3), 5);
        due("undo()", y.undo(), false);
        // An ACT each, questions and what is refused are none; chance() is one, however often.
        WaveBridges z = of(TRIANGLE);
        z.run(20);
        z.cut(0);
        z.mend(0);
        z.stop(0);
        z.start(0);
        z.prio(0, 9);
        z.turn(0);
        z.move(0, 1);
        z.send(0, 1);
        z.chance(20);
        due("has(11)", z.has(11), 10);
        z.cut(-1);
        z.send(0, 0);
        z.when();
        z.heal(0);
        z.image();
        z.seed(8);
        due("has(11)", z.has(11), 10);
        int seen = z.has(12);
        for (int k = 0; k < 9; k++) z.undo();
        due("has(3)", z.has(3), 20);
        due("has(11)", z.has(11), 1);
        due("the seed stays", z.has(12), seen);
        due("has(6)", z.has(6), 3);
        due("bridge(0, 0)", z.bridge(0, 0), 16);
        due("frame(0) stays", z.frame(0) != NONE, true);
    }

    // ---- by the seed

    private static void draws() {
        promise = 39;
        // Seed 0: 12345, / 64 = 192, mod 3 = 0; 1406932606, / 64 = 21983321, mod 16 = 9: 10 STEPS.
        WaveBridges x = of(TRIANGLE);
        x.seed(0);
        due("chance(1)", x.chance(1), 2);
        due("link(0, 6)", x.link(0, 6), 0);
        due("has(3)", x.has(3), 10);
        due("has(12)", x.has(12), 1406932606);
        // The greatest seed: 1043980748, mod 3 = 2; 288979989, mod 16 = 0: 1 STEP; then 0, 4: 5 STEPS.
        WaveBridges y = of(TRIANGLE);
        y.seed(Integer.MAX_VALUE);
        due("chance(2)", y.chance(2), 1);
        due("link(2, 6)", y.link(2, 6), 0);
        due("link(0, 6)", y.link(0, 6), 0);
        due("has(3)", y.has(3), 6);
        due("has(12)", y.has(12), 1751031067);
        // The most STEPS of one time are 16.
        WaveBridges z = of(TRIANGLE);
        z.seed(47);
        z.chance(1);
        due("has(3)", z.has(3), 16);
        z.seed(4);
        z.chance(1);
        due("has(3)", z.has(3), 17);
        // The last of 14 LINKS, and the first.
        StringBuilder t = new StringBuilder("net age 6 delay 2;");
        for (int k = 0; k < 8; k++) t.append("bridge ").append((char) ('a' + k)).append(" prio 1;");
        for (int k = 0; k < 14; k++) t.append("link ").append((char) ('a' + k % 8)).append(" to ").append((char) ('a' + (k + 1 + k / 8) % 8)).append(" cost 1 takes 1;");
        WaveBridges w = of(t.toString());
        w.seed(12);
        due("chance(1)", w.chance(1), 13);
        due("link(13, 6)", w.link(13, 6), 0);
        w.seed(16);
        due("chance(1)", w.chance(1), 12);
        due("link(0, 6)", w.link(0, 6), 0);
        w.seed(12);
        due("chance(1): it is mended", w.chance(1), 13);
        due("link(13, 6)", w.link(13, 6), 1);
    }

    // ---- steps ahead

    private static void when() {
        promise = 18;
        WaveBridges x = of(SLOW + "bridge a prio 13;bridge b prio 11;bridge c prio 11;bridge d prio 13 old;bridge e prio 6 old;"
                + "link a to c cost 3 takes 1;link a to b cost 5 takes 3;link c to d cost 5 takes 3;link c to d cost 4 takes 2;"
                + "link c to e cost 4 takes 2;link d to a cost 3 takes 1;link c to a cost 2 takes 3;", 5);
        x.turn(4);
        x.run(3);
        x.prio(4, 15);
        due("when(): 401 are too many", x.when(), NONE);
        x.run(1);
        due("when()", x.when(), 400);
        due("has(3) stays", x.has(3), 9);
        x.run(1);
        due("when()", x.when(), 399);
        x.run(200);
        x.run(198);
        due("rests() a STEP too early", x.rests(), false);
        due("when()", x.when(), 1);
        x.run(1);
        due("rests()", x.rests(), true);
        due("when()", x.when(), 0);
    }

    private static void heal() {
        promise = 23;
        WaveBridges x = of(SLOW + AROUND, 9);
        due("heal(1)", x.heal(1), 320);
        promise = 24;
        due("worst(0)", x.worst(0), 1);
        due("worst(1)", x.worst(1), 320);
        promise = 23;
        x.cut(1);
        x.run(200);
        x.run(119);
        due("joined(1, 2) a STEP too early", x.joined(1, 2), NONE);
        x.run(1);
        due("joined(1, 2)", x.joined(1, 2), 1);
        WaveBridges y = of(SLOW + AROUND_LATER, 8);
        due("heal(2): 321 are too many", y.heal(2), NONE);
        promise = 24;
        due("worst(0)", y.worst(0), 2);
        due("worst(1)", y.worst(1), NONE);
        promise = 23;
        y.cut(2);
        y.run(200);
        y.run(120);
        due("joined(1, 2) a STEP too early", y.joined(1, 2), NONE);
        y.run(1);
        due("joined(1, 2)", y.joined(1, 2), 1);
        promise = 24;
        // Not by 320 is latest of all, wherever it is told; of two such ones the first.
        WaveBridges z = of(SLOW + AROUND_LATER + second(AROUND_LAST), 4);
        // The other half opens by waiting until then.
        due("heal(2)", z.heal(2), 141);
        due("heal(7)", z.heal(7), NONE);
        due("worst(0)", z.worst(0), 7);
        due("worst(1)", z.worst(1), NONE);
        WaveBridges w = of(SLOW + AROUND_LAST + second(AROUND_LAST), 4);
        due("heal(3)", w.heal(3), NONE);
        due("heal(7)", w.heal(7), NONE);
        due("worst(0)", w.worst(0), 3);
        due("worst(1)", w.worst(1), NONE);
        // Of like ones that are HEALED at once the first.
        WaveBridges p = of(PAIR.replace("host h", "link a to b cost 5 takes 1;host h"));
        p.run(30);
        due("worst(0)", p.worst(0), 0);
        due("worst(1)", p.worst(1), 0);
    }

    /** At STEP 9999 the STEPS AHEAD go on, as they do from any other STEP with the same TICKS. */
    private static void beyond() {
        WaveBridges[] both = new WaveBridges[2];
        int[] until = {1998, 9998};
        for (int k = 0; k < 2; k++) {
            both[k] = of(TRIANGLE, until[k]);
            both[k].cut(0);
            both[k].mend(0);
            both[k].stop(2);
            both[k].start(2);
            both[k].run(1);
            put(both[k], 2, 1, 3);
            both[k].see(80);
        }
        WaveBridges a = both[0], z = both[1];
        promise = 29;
        due("has(3)", z.has(3), 9999);
        due("run(1)", z.run(1), NONE);
        promise = 13;
        due("has(4)", z.has(4), a.has(4));
        int last = z.has(4) - 1;
        due("the last message arrives", z.message(last, 0), 10001);
        due("the first message arrives", z.message(0, 0), 9999);
        due("message behind the last", z.message(last + 1, 0), NONE);
        for (int n = 0; n <= last; n++) {
            due("message(" + n + ", 0)", z.message(n, 0) - 8000, a.message(n, 0));
            for (int k = 1; k < 10; k++) due("message(" + n + ", " + k + ")", z.message(n, k), a.message(n, k));
        }
        promise = 18;
        due("when()", z.when(), a.when());
        due("when()", z.when() > 0, true);
        promise = 20;
        due("rings(200)", z.rings(200), a.rings(200));
        promise = 23;
        for (int l = 0; l < 3; l++) due("heal(" + l + ")", z.heal(l), a.heal(l));
        promise = 24;
        for (int k = 0; k < 2; k++) due("worst(" + k + ")", z.worst(k), a.worst(k));
        promise = 26;
        for (int k = -1; k < 5; k++) due("suspect(" + k + ")", z.suspect(k), a.suspect(k));
        promise = 27;
        for (int k = 0; k < 3; k++) due("tells(" + k + ")", z.tells(k), a.tells(k));
        promise = 40;
        due("undo()", z.undo(), true);
        due("has(3)", z.has(3), 9998);
        promise = 29;
        due("run(1)", z.run(1), 9999);
        // Acts that are no STEPS go on at the end.
        due("cut(0)", z.cut(0), true);
        due("send(0, 1)", z.send(0, 1) != NONE, true);
        due("has(3)", z.has(3), 9999);
    }

    /** SEEN behind just n STEPS, 0 and 80 among them. */
    private static void seen() {
        promise = 26;
        WaveBridges x = of(PAIR);
        put(x, 0, 0, 2);
        x.see(1);
        due("behind STEP 0 a is designated still: uncut", x.suspect(-1), 1);
        due("suspect(0)", x.suspect(0), 1);
        put(x, 0, 0, 1);
        x.see(1);
        due("suspect(-1)", x.suspect(-1), 0);
        put(x, 0, 0, 1);
        x.see(2);
        due("behind STEP 1 it is root", x.suspect(-1), 1);
        put(x, 0, 0, 0);
        x.see(0);
        due("cut, at once", x.suspect(-1), 1);
        due("suspect(0)", x.suspect(0), 0);
        due("suspect(1)", x.suspect(1), NONE);
        // b gets the better root: at once a is designated still, behind 80 STEPS it is not.
        WaveBridges y = of(SLOW + "bridge a prio 1 old;bridge b prio 2 old;link a to b cost 1 takes 1;");
        y.run(1);
        y.prio(1, 0);
        for (int n : new int[] {0, 80}) {
            put(y, 0, 0, n == 0 ? 2 : 1);
            due("see(" + n + ")", y.see(n), 1);
            due("suspect(-1)", y.suspect(-1), 1);
            due("suspect(0)", y.suspect(0), 1);
        }
        // c's ports 2 and 3 are 1, 2 behind 79 STEPS, 2, 2 behind 80, 2, 1 behind 81, if nothing more is cut.
        for (int n = 79; n <= 80; n++) {
            WaveBridges w = of(SLOW + AROUND, 9);
            w.cut(1);
            w.run(8);
            put(w, 2, 2, 2, 2, 3, 2);
            w.see(n);
            boolean uncut = false;
            for (int k = 0; k < w.suspect(NONE); k++) uncut |= w.suspect(k) == 4;
            due("none is cut, behind " + n, uncut, n == 80);
        }
        // Each of 16 rows counts, the last one, too.
        WaveBridges z = of(PAIR, 9);
        int[] rows = new int[48];
        for (int k = 0; k < 16; k++) rows[3 * k + 2] = 1;
        put(z, rows);
        due("see(0)", z.see(0), 16);
        due("suspect(-1)", z.suspect(-1), 1);
        rows[47] = 2;
        put(z, rows);
        z.see(0);
        due("suspect(-1)", z.suspect(-1), 0);
        promise = 27;
        due("tells(0) without SUSPECTS", z.tells(0), NONE);
        due("tells(2) without SUSPECTS", z.tells(2), NONE);
    }

    // ---- rings, ways, centres

    private static void shapes() {
        promise = 19;
        // The most OPEN LINKS that could be SHUT: 14 among 8, of which 7 join all.
        StringBuilder t = new StringBuilder("net age 6 delay 2;");
        for (int k = 0; k < 8; k++) t.append("bridge ").append((char) ('a' + k)).append(" prio 1;");
        for (int k = 0; k < 14; k++) t.append("link ").append((char) ('a' + k % 8)).append(" edge to ").append((char) ('a' + (k + 1 + k / 8) % 8)).append(" edge cost 1 takes 3;");
        WaveBridges x = of(t.toString());
        row("ring(", x::ring, 7, 0, NONE);
        promise = 20;
        due("rings(1)", x.rings(1), 1);
        due("rings(3)", x.rings(3), 3);
        due("rings(4)", x.rings(4), 3);
        promise = 19;
        // A bridge that only leads to a ring is not on it: a - b = c.
        WaveBridges y = of("net age 6 delay 2;bridge a prio 1;bridge b prio 1;bridge c prio 1;link a edge to b edge cost 1 takes 1;"
                + "link b edge to c edge cost 1 takes 1;link c edge to b edge cost 1 takes 1;");
        row("ring(", y::ring, 1, 1, NONE);
        // A link from a bridge to itself is one.
        WaveBridges s = of("net age 6 delay 2;bridge a prio 1;bridge b prio 1;link b edge to b edge cost 1 takes 1;");
        row("ring(", s::ring, 1, 1, NONE);
        // One that is OPEN at one end alone is none.
        WaveBridges o = of("net age 6 delay 2;bridge a prio 1;bridge b prio 1;link b edge to b cost 1 takes 1;");
        row("ring(", o::ring, 0, NONE, NONE);
        promise = 8;
        due("link(0, 7)", o.link(0, 7), 0);
        promise = 21;
        // The longest way: 7 links of 8 bridges.
        StringBuilder c = new StringBuilder("net age 20 delay 1;");
        for (int k = 0; k < 8; k++) c.append("bridge ").append((char) ('a' + k)).append(" prio ").append(k).append(";");
        for (int k = 0; k < 7; k++) c.append("link ").append((char) ('a' + k)).append(" to ").append((char) ('b' + k)).append(" cost 200 takes 3;");
        WaveBridges w = of(c + "host hx at a;host gx at h;", 100);
        due("joined(0, 7)", w.joined(0, 7), 7);
        due("joined(7, 0)", w.joined(7, 0), 7);
        promise = 15;
        row("due(7, ", k -> w.due(7, k), 0, 1400, 0, NONE);
        promise = 9;
        due("bridge(7, 5)", w.bridge(7, 5), 1400);
        due("bridge(7, 7)", w.bridge(7, 7), 7);
        promise = 37;
        due("send(0, 1)", w.send(0, 1), 1);
        due("frame(1)", w.frame(1), 7);
        promise = 22;
        for (int b = 0; b < 8; b++) due("leads(" + b + ", 0)", w.leads(b, 0), b);
        due("leads(0, 1): no address", w.leads(0, 1), NONE);
        w.move(0, 1);
        due("leads(7, 0): it is not there", w.leads(7, 0), NONE);
        w.undo();
        w.stop(3);
        due("leads(2, 0)", w.leads(2, 0), 2);
        due("leads(3, 0) of one that is off", w.leads(3, 0), NONE);
        due("leads(4, 0): the address went", w.leads(4, 0), NONE);
        due("leads(5, 0): it ends at 4", w.leads(5, 0), NONE);
        promise = 28;
        // a - b - c: b; like sums: the first; none joined: the first that is ON.
        WaveBridges m = of("net age 6 delay 2;bridge a prio 1;bridge b prio 1;bridge c prio 1;bridge d prio 1;link a to b cost 200 takes 1;"
                + "link c to d cost 1 takes 1;link b to c cost 1 takes 1;");
        row("centre(", m::centre, 1, 4, 203, NONE);
        m.cut(2);
        row("centre(", m::centre, 2, 2, 1, NONE);
        m.stop(3);
        row("centre(", m::centre, 0, 2, 200, NONE);
        m.cut(0);
        row("centre(", m::centre, 0, 1, 0, NONE);
        m.stop(0);
        row("centre(", m::centre, 1, 1, 0, NONE);
    }

    public static void main(String[] args) {
        ticks();
        change();
        life();
        age();
        shortTime();
        addressAge();
        agreement();
        flushed();
        frames();
        kept();
        undone();
        draws();
        when();
        heal();
        beyond();
        seen();
        shapes();
        System.out.println(wrong == 0 ? "all answers are as due" : wrong + " answers are not as due");
        if (wrong != 0) System.exit(1);
    }
}

import java.util.Arrays;
import java.util.function.IntUnaryOperator;

/**
 * Sentences of 'Terms' II and III that only a run made for them shows: what is MARKED, AGREED, proposed and answered,
 * what begins anew, what an act undone gives back, what a full net reaches; the answers were found by hand.
 */
public final class WaveBridgesSentences {
    private static final int NONE = WaveBridges.NONE;
    private static final String NET = "net age 6 delay 2;";
    // IDs 16 and 1: b is the root; port 0 of each is on the link.
    private static final String PAIR =
            NET + "bridge a prio 1;bridge b prio 0;link a to b cost 5 takes 1;host h at a;host g at b;";
    // IDs 16, 33, 50: a is the root, the link of b and c is a spare one that c shuts.
    private static final String TRIANGLE = NET + "bridge a prio 1;bridge b prio 2;bridge c prio 3;"
            + "link a to b cost 1 takes 1;link a to c cost 1 takes 1;link b to c cost 1 takes 1;"
            + "host h at a;host g at b;host f at c;";
    // The same with told edges: all links are open at once, a ring.
    private static final String EDGES = NET + "bridge a prio 1;bridge b prio 2;bridge c prio 3;"
            + "link a edge to b edge cost 1 takes 3;link a edge to c edge cost 1 takes 3;link b edge to c edge cost 1 takes 3;"
            + "host h at a;host g at b;host f at c;";

    private static int wrong = 0;
    private static int promise = 0;

    private static void due(String call, long got, long want) {
        if (got != want) {
            wrong++;
            System.out.println("promise " + promise + ": " + call + " answered " + got + ", due is " + want);
        }
    }
    private static void due(String call, boolean got, boolean want) { due(call, got ? 1 : 0, want ? 1 : 0); }

    private static void put(WaveBridges x, int... bytes) {
        for (int at = 0; at < bytes.length; at += 20) {
            int[] v = new int[5];
            for (int k = 0; k < 20; k++) v[k / 4] = v[k / 4] << 8 | (at + k < bytes.length ? bytes[at + k] & 255 : 255);
            x.feed(v[0], v[1], v[2], v[3], v[4]);
        }
        x.end(bytes.length);
    }
    private static void tell(WaveBridges x, String text) {
        put(x, text.chars().toArray());
        if (x.net() == NONE) due("net() of " + text, NONE, 1);
    }
    private static WaveBridges of(String text) {
        WaveBridges x = new WaveBridges();
        tell(x, text);
        return x;
    }
    private static WaveBridges of(String text, int steps) {
        WaveBridges x = of(text);
        x.run(steps);
        return x;
    }
    private static void row(String what, IntUnaryOperator asked, int... want) {
        for (int k = 0; k < want.length; k++) due(what + k + ")", asked.applyAsInt(k), want[k]);
    }
    /** ROLE, STATE, WAIT, CHANGE, AGREED, an EDGE, speaks OLD, OWES an AGREEMENT, an ANSWER, MARKED. */
    private static void portIs(WaveBridges x, int b, int p, int... want) { row("port(" + b + ", " + p + ", ", k -> x.port(b, p, k), want); }
    /** STEP, BRIDGE, PORT, a REPLY, root ID, COST, ID, PORT, AGE, bits. */
    private static void messageIs(WaveBridges x, int n, int... want) { row("message(" + n + ", ", k -> x.message(n, k), want); }

    // ---- what is MARKED and AGREED as a bridge chooses

    /** Another vector than the one before is MARKED, a better one, too; only a worse one takes the agreement away. */
    private static void anotherVector() {
        promise = 10;
        WaveBridges worse = of(TRIANGLE, 42);
        portIs(worse, 1, 1, 2, 2, 0, 0, 1, 0, 0, 0, 0, 0);
        due("has(4)", worse.has(4), 0);
        due("prio(1, 5)", worse.prio(1, 5), true);
        portIs(worse, 1, 1, 2, 2, 0, 0, 0, 0, 0, 0, 0, 1);
        portIs(worse, 1, 0, 1, 2, 0, 0, 0, 0, 0, 0, 0, 0);
        promise = 9;
        row("bridge(1, ", k -> worse.bridge(1, k), 81, 2, 0, 1, 16, 1, 0, 1, 0);
        promise = 13;
        worse.run(1);
        due("has(4)", worse.has(4), 1);
        messageIs(worse, 0, 43, 2, 1, 0, 16, 1, 81, 1, 1, 0);
        promise = 10;
        WaveBridges better = of(TRIANGLE, 42);
        due("prio(1, 1)", better.prio(1, 1), true);
        portIs(better, 1, 1, 2, 2, 0, 0, 1, 0, 0, 0, 0, 1);
        better.run(1);
        promise = 13;
        messageIs(better, 0, 43, 2, 1, 0, 16, 1, 17, 1, 1, 0);
        // The same vector is not MARKED: the root port is cut off from another bridge's spare link alone.
        promise = 10;
        WaveBridges same = of(TRIANGLE, 42);
        same.cut(2);
        portIs(same, 1, 0, 1, 2, 0, 0, 0, 0, 0, 0, 0, 0);
        portIs(same, 0, 0, 2, 2, 0, 0, 1, 0, 0, 0, 0, 0);
        same.run(1);
        due("has(4)", same.has(4), 0);
    }

    /** m turns from a way of 9 to one of 4 that is open on r's side: nothing but the lesser COST marks its port to l. */
    private static void lesserCost() {
        promise = 13;
        WaveBridges x = of(NET + "bridge r prio 0;bridge m prio 1;bridge l prio 2;link r to m cost 9 takes 1;"
                + "link r edge to m cost 4 takes 1;link m to l cost 1 takes 1;", 30);
        due("COST", x.bridge(1, 5), 4);
        due("has(4)", x.has(4), 0);
        x.cut(1);
        due("COST", x.bridge(1, 5), 9);
        portIs(x, 1, 0, 1, 2, 0, 2, 0, 0, 0, 0, 0, 1);
        portIs(x, 1, 2, 2, 2, 0, 2, 0, 0, 0, 0, 0, 1);
        x.mend(1);
        portIs(x, 0, 1, 2, 2, 0, 0, 0, 1, 0, 0, 0, 1);
        x.run(2);
        due("COST", x.bridge(1, 5), 4);
        portIs(x, 1, 0, 3, 0, 0, 0, 0, 0, 0, 0, 0, 0);
        due("has(4)", x.has(4), 3);
        messageIs(x, 2, 32, 2, 0, 0, 0, 4, 17, 2, 1, 4);
    }

    /** l agrees to a COST of 9, which is 4 when the agreement comes. */
    private static void agreementToAnotherCost() {
        promise = 10;
        WaveBridges x = of(NET + "bridge r prio 0;bridge m prio 1;bridge l prio 2;link r to m cost 9 takes 1;"
                + "link r to m cost 4 takes 3;link m to l cost 1 takes 1;", 3);
        due("COST", x.bridge(1, 5), 9);
        boolean comes = false;
        for (int n = 0; n < x.has(4); n++) {
            comes |= x.message(n, 0) == 3 && x.message(n, 1) == 1 && x.message(n, 2) == 2 && x.message(n, 5) == 9 && (x.message(n, 9) & 2) != 0;
        }
        due("an AGREEMENT to 9 comes", comes, true);
        x.run(1);
        due("COST", x.bridge(1, 5), 4);
        due("not AGREED", x.port(1, 2, 4), 0);
        due("SHUT", x.port(1, 2, 1), 0);
        x.run(1);
        due("not AGREED", x.port(1, 2, 4), 0);
        x.run(1);
        due("AGREED to 4", x.port(1, 2, 4), 1);
        due("OPEN", x.port(1, 2, 1), 2);
    }

    /** One that was AGREED is so no more as ROLE 1, 3. */
    private static void agreedNoMore() {
        promise = 10;
        WaveBridges x = of(PAIR, 3);
        due("AGREED", x.port(1, 0, 4), 1);
        x.prio(0, 0);
        portIs(x, 0, 0, 2, 0, 2, 2, 0, 0, 0, 0, 0, 1);
        x.run(1);
        due("AGREED", x.port(1, 0, 4), 1);
        x.run(1);
        portIs(x, 1, 0, 1, 2, 0, 2, 0, 0, 0, 0, 0, 0);
        // c gets the better ID: its spare port asks b's, which shuts.
        WaveBridges y = of(TRIANGLE, 42);
        due("AGREED", y.port(1, 1, 4), 1);
        y.prio(2, 1);
        portIs(y, 2, 1, 2, 0, 2, 0, 0, 0, 0, 0, 0, 1);
        y.run(2);
        portIs(y, 1, 1, 3, 0, 0, 0, 0, 0, 0, 0, 0, 0);
        y.run(1);
        // The alternate one has agreed all the same.
        portIs(y, 2, 1, 2, 2, 0, 2, 1, 0, 0, 0, 0, 0);
    }

    // ---- proposals

    /** With a PROPOSAL at the root port others of ROLE 2 SHUT, but not an EDGE, nor one that is AGREED. */
    private static void proposal() {
        promise = 10;
        WaveBridges x = of(NET + "bridge r prio 0;bridge m prio 1;bridge l prio 2;bridge k prio 3;bridge e prio 4;"
                + "link m to l cost 1 takes 1;link r to m cost 9 takes 1;link r to m cost 4 takes 1;link m to k cost 1 takes 1;"
                + "link m edge to e cost 1 takes 3;", 41);
        due("ROOT PORT", x.bridge(1, 6), 2);
        x.cut(2);
        due("ROOT PORT", x.bridge(1, 6), 1);
        x.run(16);
        x.cut(3);
        x.mend(3);
        x.run(9);
        x.cut(4);
        x.mend(4);
        x.mend(2);
        due("has(3)", x.has(3), 66);
        // The CHANGE of m's port to k, which opened in STEP 59, is a TICK old; it is not spread anew until it is over.
        portIs(x, 1, 0, 2, 2, 0, 1, 0, 0, 0, 0, 0, 0);
        portIs(x, 1, 3, 2, 2, 0, 1, 1, 0, 0, 0, 0, 0);
        portIs(x, 1, 4, 2, 2, 0, 0, 0, 1, 0, 0, 0, 1);
        x.run(2);
        portIs(x, 1, 0, 2, 0, 2, 1, 0, 0, 0, 0, 0, 0);
        portIs(x, 1, 1, 3, 0, 0, 0, 0, 0, 0, 0, 0, 0);
        portIs(x, 1, 2, 1, 2, 0, 2, 0, 0, 0, 0, 0, 0);
        portIs(x, 1, 3, 2, 2, 0, 1, 1, 0, 0, 0, 0, 0);
        portIs(x, 1, 4, 2, 2, 0, 0, 0, 1, 0, 0, 0, 0);
        promise = 13;
        int n = 0;
        while (n < x.has(4) && x.message(n, 1) != 2) n++;
        messageIs(x, n, 68, 2, 0, 0, 0, 4, 17, 0, 1, 5);
    }

    /** A second PROPOSAL of the same vector: those that are SHUT wait and ask anew. */
    private static void proposalAgain() {
        promise = 13;
        WaveBridges x = of(NET + "bridge r prio 0;bridge m prio 1;bridge l prio 2;link r to m cost 1 takes 1;link m to l cost 1 takes 3;", 3);
        due("has(4)", x.has(4), 6);
        messageIs(x, 3, 3, 2, 0, 0, 17, 0, 17, 1, 0, 1);
        messageIs(x, 4, 4, 2, 0, 0, 0, 1, 17, 1, 1, 5);
        messageIs(x, 5, 5, 2, 0, 0, 0, 1, 17, 1, 1, 5);
        promise = 10;
        // l is old and agrees to nothing: m's port to it waits, 9 TICKS from the PROPOSALS on, 3 of which have come.
        WaveBridges y = of("net age 6 delay 9;bridge r prio 0;bridge m prio 1;bridge l prio 2 old;"
                + "link r to m cost 1 takes 1;link m to l cost 1 takes 1;", 25);
        due("WAIT", y.port(1, 1, 2), 6);
        y.cut(0);
        y.mend(0);
        y.run(1);
        due("WAIT goes on", y.port(1, 1, 2), 6);
        y.run(1);
        due("WAIT anew", y.port(1, 1, 2), 9);
        due("SHUT", y.port(1, 1, 1), 0);
    }

    /** A PROPOSAL by which the ROLE is 2 OWES nothing. */
    private static void proposalOfWorse() {
        promise = 10;
        WaveBridges x = of(PAIR, 2);
        x.prio(1, 15);
        x.run(2);
        portIs(x, 0, 0, 2, 0, 2, 2, 0, 0, 0, 0, 0, 0);
        promise = 11;
        due("held(0, 0, 0)", x.held(0, 0, 0), NONE);
        promise = 13;
        due("has(4)", x.has(4), 1);
        messageIs(x, 0, 4, 1, 0, 0, 16, 0, 16, 0, 0, 5);
    }

    /** One that OWES an AGREEMENT turns to ROLE 2 by what comes to another PORT in the same STEP: it OWES none. */
    private static void owesNoMore() {
        promise = 10;
        WaveBridges x = of(NET + "bridge r prio 1;bridge m prio 2;bridge s prio 0;link r to m cost 1 takes 1;link m to s cost 1 takes 1;", 2);
        portIs(x, 1, 0, 2, 0, 2, 2, 0, 0, 0, 0, 0, 0);
        portIs(x, 1, 1, 1, 2, 0, 2, 0, 0, 0, 0, 0, 0);
        promise = 14;
        int[][] kept = {{1, 1, 0, 2}, {1, 1, 0, 0}, {1, 1, 1, 2}};
        due("has(9)", x.has(9), 3);
        for (int n = 0; n < 3; n++) { int one = n; row("kept(" + n + ", ", k -> x.kept(one, k), kept[n]); }
        promise = 13;
        due("has(4)", x.has(4), 4);
        messageIs(x, 0, 2, 0, 0, 0, 2, 1, 33, 0, 1, 5);
        messageIs(x, 1, 2, 1, 0, 0, 16, 0, 16, 0, 0, 1);
        messageIs(x, 2, 2, 1, 1, 0, 2, 0, 2, 0, 0, 1);
        messageIs(x, 3, 2, 2, 0, 1, 2, 0, 2, 0, 0, 6);
    }

    // ---- what is sent

    /** A REPLY with neither AGREEMENT nor CHANGE is not sent; one with CHANGE alone is. */
    private static void replies() {
        promise = 13;
        WaveBridges x = of(NET + "bridge a prio 1 old;bridge b prio 2 old;link a to b cost 1 takes 1;", 7);
        due("has(4)", x.has(4), 0);
        x.prio(1, 0);
        x.run(1);
        messageIs(x, 0, 8, 0, 0, 0, 1, 0, 1, 0, 0, 16);
        // In STEP 8 a is MARKED by the TICK, as its own root, then it hears of a better one: it has nothing to send.
        x.run(1);
        due("ROLE", x.port(0, 0, 0), 1);
        due("MARKED no more", x.port(0, 0, 9), 0);
        due("has(4)", x.has(4), 1);
        messageIs(x, 0, 9, 0, 0, 0, 1, 0, 1, 0, 0, 16);
        WaveBridges y = of(PAIR, 9);
        due("has(4)", y.has(4), 2);
        messageIs(y, 0, 9, 0, 0, 0, 1, 0, 1, 0, 0, 4);
        messageIs(y, 1, 9, 1, 0, 1, 1, 0, 1, 0, 0, 4);
        y.run(8);
        due("has(4) without CHANGE", y.has(4), 1);
        messageIs(y, 0, 17, 0, 0, 0, 1, 0, 1, 0, 0, 0);
    }

    /** A port that turns to speak OLD is MARKED, though what it read comes to nothing: it is too old. */
    private static void turnsToOld() {
        promise = 10;
        WaveBridges x = of("net age 2 delay 1;bridge r prio 0;bridge x prio 1;bridge o prio 2 old;bridge n prio 3;"
                + "link r to x cost 1 takes 1;link x to o cost 1 takes 1;link o to n cost 1 takes 1;", 20);
        due("AGE of o", x.bridge(2, 7), 2);
        due("root of n", x.bridge(3, 4), 51);
        due("has(4)", x.has(4), 0);
        x.cut(2);
        x.mend(2);
        due("n speaks OLD", x.port(3, 0, 6), 0);
        x.run(1);
        promise = 13;
        due("has(4)", x.has(4), 2);
        messageIs(x, 0, 21, 2, 1, 0, 51, 0, 51, 0, 0, 1);
        messageIs(x, 1, 21, 3, 0, 0, 0, 2, 34, 1, 2, 16);
        x.run(1);
        promise = 10;
        due("n speaks OLD", x.port(3, 0, 6), 1);
        due("n HOLDS nothing", x.held(3, 0, 0), NONE);
        promise = 13;
        due("has(4)", x.has(4), 1);
        messageIs(x, 0, 22, 2, 1, 0, 51, 0, 51, 0, 0, 16);
        // It speaks so until it goes down.
        promise = 10;
        x.run(100);
        due("n speaks OLD", x.port(3, 0, 6), 1);
        x.turn(2);
        due("n speaks OLD to one that is not old any more", x.port(3, 0, 6), 0);
    }

    // ---- up, down, begin

    /** Each LINK mended alone: its two PORTS are EDGES, those of the others stay down. */
    private static void mended() {
        promise = 31;
        WaveBridges x = of(EDGES, 9);
        for (int l = 0; l < 3; l++) x.cut(l);
        for (int l = 0; l < 3; l++) {
            due("mend(" + l + ")", x.mend(l), true);
            for (int other = 0; other < 3; other++) {
                for (int end = 0; end <= 2; end += 2) {
                    int up = other == l ? 1 : 0;
                    portIs(x, x.link(other, end), x.link(other, end + 1), 2 * up, 2 * up, 0, 0, 0, up, 0, 0, 0, up);
                }
            }
            x.cut(l);
        }
        // With a BRIDGE that is off they are not UP, and no EDGES.
        x.stop(0);
        due("mend(0)", x.mend(0), true);
        portIs(x, 0, 0, 0, 0, 0, 0, 0, 0, 0, 0, 0, 0);
        portIs(x, 1, 0, 0, 0, 0, 0, 0, 0, 0, 0, 0, 0);
        promise = 33;
        due("start(0)", x.start(0), true);
        portIs(x, 0, 0, 2, 2, 0, 0, 0, 1, 0, 0, 0, 1);
        portIs(x, 1, 0, 2, 2, 0, 0, 0, 1, 0, 0, 0, 1);
        portIs(x, 0, 1, 0, 0, 0, 0, 0, 0, 0, 0, 0, 0);
        // Going ON, those at the other ends come UP, too: as EDGES, though they were none any more.
        WaveBridges y = of(EDGES, 9);
        due("an EDGE", y.port(1, 0, 5), 0);
        y.stop(0);
        y.start(0);
        for (int b = 1; b < 3; b++) portIs(y, b, 0, 2, 2, 0, 0, 0, 1, 0, 0, 0, 1);
    }

    /** Behind net() and on() nothing is FLUSHED, no time is SHORT. */
    private static void beginsAnew() {
        String old = NET.replace("delay 2", "delay 1") + "bridge a prio 0 old;bridge b prio 1 old;link a to b cost 3 takes 1;";
        for (boolean byImage : new boolean[] {false, true}) {
            promise = byImage ? 44 : 4;
            WaveBridges x = of(old, 9);
            due("SHORT", x.bridge(0, 8), 7);
            again(x, old, byImage);
            due("SHORT", x.bridge(0, 8), 0);
            due("SHORT", x.bridge(1, 8), 0);
            String star = NET + "bridge a prio 1;bridge b prio 2;bridge c prio 3;link a to b cost 1 takes 1;link a to c cost 1 takes 1;"
                    + "host h at b;host g at a;";
            WaveBridges y = of(star, 20);
            y.cut(1);
            y.run(20);
            y.send(0, 1);
            y.send(1, 0);
            due("address(0, 0, 0)", y.address(0, 0, 0), 0);
            y.mend(1);
            y.run(3);
            due("the first HOST is FLUSHED", y.address(0, 0, 0), NONE);
            due("the one at the host place is not", y.address(0, 1, 0), 6);
            due("FLUSHED", y.has(8), 1);
            again(y, star, byImage);
            due("FLUSHED", y.has(8), 0);
        }
    }
    private static void again(WaveBridges x, String text, boolean byImage) {
        if (!byImage) {
            tell(x, text);
            return;
        }
        put(x, image(x));
        due("on()", x.on(), true);
    }
    private static int[] image(WaveBridges x) {
        int[] bytes = new int[x.image()];
        for (int k = 0; k < bytes.length; k++) bytes[k] = x.octet(k);
        return bytes;
    }

    /** An ACT undone gives back how old addresses are and when messages arrive. */
    private static void givenBack() {
        promise = 40;
        WaveBridges x = of(PAIR, 17);
        x.send(0, 1);
        x.run(16);
        due("TICKS", x.address(1, 0, 1), 2);
        x.undo();
        due("TICKS", x.address(1, 0, 1), 0);
        x.run(8);
        due("TICKS", x.address(1, 0, 1), 1);
        WaveBridges y = of(PAIR, 3);
        due("STEP", y.message(0, 0), 3);
        y.run(6);
        due("STEP", y.message(0, 0), 9);
        y.undo();
        due("STEP", y.message(0, 0), 3);
        due("STEP", y.message(1, 0), 3);
        // Steps ahead leave it as it is, too.
        y.when();
        y.rings(200);
        y.heal(0);
        y.suspect(NONE);
        due("STEP", y.message(0, 0), 3);
        due("has(4)", y.has(4), 2);
    }

    // ---- rests, rings, cuts, frames

    private static void rests() {
        promise = 17;
        // Without link 1 the first bridge has not heard yet that its way costs 1 more; all else is as due.
        WaveBridges t = of(NET + "bridge d prio 4;bridge a prio 1;bridge b prio 2;bridge c prio 3;link a to b cost 1 takes 1;"
                + "link a to c cost 1 takes 1;link b to c cost 1 takes 1;link c to d cost 1 takes 1;", 41);
        due("rests()", t.rests(), true);
        t.cut(1);
        due("COST", t.bridge(0, 5), 2);
        due("due(0, 1)", t.due(0, 1), 3);
        due("rests() with an old COST", t.rests(), false);
        promise = 18;
        due("when()", t.when(), 2);
        promise = 17;
        // Those that are off have nothing to be as due.
        for (int b = 0; b < 2; b++) {
            WaveBridges x = of(PAIR, 3);
            x.stop(b);
            due("rests() with one off", x.rests(), true);
            promise = 18;
            due("when() with one off", x.when(), 0);
            x.stop(1 - b);
            due("when() with all off", x.when(), 0);
            promise = 17;
            due("rests() with all off", x.rests(), true);
        }
    }

    private static void heals() {
        promise = 23;
        // Each link's cut parts its own two; the other two are joined behind 3 STEPS.
        String two = NET + "bridge a prio 1;bridge b prio 2;bridge c prio 3;bridge d prio 4;link a to b cost 1 takes 1;link c to d cost 1 takes 1;";
        for (int l = 0; l < 2; l++) {
            WaveBridges x = of(two);
            due("heal(" + l + ")", x.heal(l), 3);
            x.run(2);
            due("heal(" + l + ")", x.heal(l), 1);
            x.run(1);
            due("heal(" + l + ")", x.heal(l), 0);
        }
    }

    private static void rings() {
        promise = 19;
        String[] links = {"b to a", "c to a", "b to c"};
        StringBuilder t = new StringBuilder(NET + "bridge a prio 1;bridge b prio 1;bridge c prio 1;bridge d prio 1;bridge e prio 1;");
        StringBuilder u = new StringBuilder(t);
        for (String l : links) t.append("link ").append(l.replace(" to", " edge to")).append(" edge cost 1 takes 1;");
        // The first one is the second end of all its links.
        WaveBridges x = of(t.toString());
        row("ring(", x::ring, 1, 0, NONE);
        // The ring is of c, d, e; a and b lead there.
        for (String l : new String[] {"a to b", "b to e", "e to d", "c to d", "e to c"}) {
            u.append("link ").append(l.replace(" to", " edge to")).append(" edge cost 1 takes 1;");
        }
        WaveBridges y = of(u.toString());
        row("ring(", y::ring, 1, 2, NONE);
        y.cut(3);
        row("ring(", y::ring, 0, NONE, NONE);
        // Any three of five, each link told from either end; the other two lead to the last of them.
        for (int three = 0; three < 32; three++) {
            if (Integer.bitCount(three) != 3) continue;
            int[] on = new int[3];
            int[] off = new int[2];
            for (int b = 0, m = 0, n = 0; b < 5; b++) if ((three >> b & 1) != 0) on[m++] = b; else off[n++] = b;
            int[][] ends = {{off[0], on[2]}, {off[1], on[2]}, {on[0], on[1]}, {on[1], on[2]}, {on[2], on[0]}};
            for (int way = 0; way < 32; way++) {
                StringBuilder v = new StringBuilder(NET + "bridge a prio 1;bridge b prio 1;bridge c prio 1;bridge d prio 1;bridge e prio 1;");
                for (int l = 0; l < 5; l++) {
                    int turned = way >> l & 1;
                    v.append("link ").append((char) ('a' + ends[l][turned])).append(" edge to ").append((char) ('a' + ends[l][1 - turned]))
                            .append(" edge cost 1 takes 1;");
                }
                row("ring(", of(v.toString())::ring, 1, on[0], NONE);
            }
        }
    }

    private static void frames() {
        promise = 38;
        WaveBridges x = of(EDGES);
        x.send(0, 1);
        due("a STORM", x.frame(2), 1);
        x.cut(0);
        due("send(0, 1)", x.send(0, 1), 1);
        row("frame(", x::frame, 1, 2, 0, NONE);
        promise = 37;
        WaveBridges y = of(PAIR, 9);
        y.stop(0);
        due("send(0, 1) of one whose BRIDGE is off", y.send(0, 1), 0);
        row("frame(", y::frame, 0, 0, 0, NONE);
        promise = 12;
        for (int b = 0; b < 2; b++) due("address(" + b + ", 0, 0)", y.address(b, 0, 0), NONE);
        promise = 37;
        // To one whose BRIDGE is off it does not come.
        due("send(1, 0) to one whose BRIDGE is off", y.send(1, 0), 0);
        row("frame(", y::frame, 0, 0, 0, NONE);
        promise = 12;
        due("address(1, 1, 0)", y.address(1, 1, 0), 6);
    }

    private static void sights() {
        promise = 25;
        // What lies on the tape behind its end is no row.
        WaveBridges x = of(TRIANGLE);
        x.feed(0x000002ff, -1, -1, -1, -1);
        x.end(3);
        due("see(0)", x.see(0), 1);
        due("has(10)", x.has(10), 1);
        promise = 27;
        // Nothing is SEEN any more: behind 0 STEPS all ROLES are 2 yet; a STEP later c's spare PORT would tell most.
        put(x, 2, 1, 3);
        due("see(7)", x.see(7), 1);
        tell(x, TRIANGLE);
        x.run(1);
        row("tells(", x::tells, 0, 0, 3, NONE);
    }

    // ---- a full net

    /** 8 bridges, 14 links, 8 hosts; the last bridge has 6 ports. */
    private static String full() {
        StringBuilder t = new StringBuilder(NET);
        for (int k = 0; k < 8; k++) t.append("bridge ").append((char) ('a' + k)).append(" prio 1;");
        for (int k = 0; k < 14; k++) {
            String ends = k < 6 ? "h" + (char) ('a' + k) : "" + (char) ('a' + k % 7) + (char) ('a' + (k + 1) % 7);
            t.append("link ").append(ends.charAt(0)).append(" to ").append(ends.charAt(1)).append(" cost 1 takes 3;");
        }
        for (int k = 0; k < 8; k++) t.append("host h").append((char) ('a' + k)).append(" at ").append((char) ('a' + k)).append(";");
        return t.toString();
    }

    private static void fullNet() {
        promise = 13;
        WaveBridges x = of(full(), 3);
        // Each of 28 PORTS has sent in STEP 0 and, as what it heard then came in STEP 3, not again.
        due("has(4)", x.has(4), 28);
        due("message(27, 0)", x.message(27, 0), 3);
        due("message(27, 1)", x.message(27, 1), 7);
        due("message(27, 2)", x.message(27, 2), 5);
        due("message(28, 0)", x.message(28, 0), NONE);
        due("message(84, 0)", x.message(84, 0), NONE);
        x.run(97);
        promise = 17;
        due("rests()", x.rests(), true);
        promise = 24;
        due("worst(0)", x.worst(0) >= 0 && x.worst(0) < 14, true);
        due("worst(1)", x.worst(1) >= 0, true);
        promise = 12;
        for (int h = 0; h < 8; h++) due("send", x.send(h, (h + 1) % 8) >= 1, true);
        for (int h = 0; h < 8; h++) x.send(h, 7 - h);
        int known = 0;
        for (int h = 0; h < 8; h++) known += x.address(7, h, 0) != NONE ? 1 : 0;
        due("addresses that the last bridge has", known, 8);
        promise = 32;
        due("stop(7)", x.stop(7), true);
        for (int h = 0; h < 8; h++) due("address(7, " + h + ", 0)", x.address(7, h, 0), NONE);
        for (int p = 0; p < 6; p++) due("port(7, " + p + ", 0)", x.port(7, p, 0), 0);
        promise = 33;
        due("start(7)", x.start(7), true);
        for (int p = 0; p < 6; p++) portIs(x, 7, p, 2, 0, 2, 0, 0, 0, 0, 0, 0, 1);
        promise = 18;
        due("when()", x.when() > 0, true);
        promise = 44;
        int[] image = image(x);
        due("image()", image.length, 47);
        put(x, image);
        due("on()", x.on(), true);
        due("as it was", Arrays.equals(image(x), image), true);
        WaveBridges fresh = of(full());
        for (int b = 0; b < 8; b++) {
            for (int p = 0; p < fresh.bridge(b, 1); p++) {
                for (int k = 0; k < 10; k++) due("port behind on()", x.port(b, p, k), fresh.port(b, p, k));
            }
        }
        promise = 4;
        // A net of one link behind one of 14: only that one counts.
        tell(x, PAIR);
        x.run(9);
        promise = 24;
        row("worst(", x::worst, 0, 0, NONE);
        promise = 6;
        row("has(", x::has, 2, 1, 2, 9, 2, 2, 1, 1);
    }

    public static void main(String[] args) {
        anotherVector();
        lesserCost();
        agreementToAnotherCost();
        agreedNoMore();
        proposal();
        proposalAgain();
        proposalOfWorse();
        owesNoMore();
        replies();
        turnsToOld();
        mended();
        beginsAnew();
        givenBack();
        rests();
        heals();
        rings();
        frames();
        sights();
        fullNet();
        System.out.println(wrong == 0 ? "all answers are as due" : wrong + " answers are not as due");
        if (wrong != 0) System.exit(1);
    }
}

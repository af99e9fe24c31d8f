/** Of each promise of the document what it asks for, its edges and wrong inputs; the answers were found by hand. */
public final class WaveBridgesPromises {
    private static final int NONE = WaveBridges.NONE;
    private static final int[] OUTSIDE = {Integer.MIN_VALUE, -1000000, -2, -1, 15, 16, 100, 65536, Integer.MAX_VALUE};
    private static int wrong = 0;
    private static int promise = 0;

    // IDs 16 and 1: b is the root; port 0 of each is on the link.
    private static final String PAIR =
            "net age 6 delay 2;bridge a prio 1;bridge b prio 0;link a to b cost 5 takes 1;host h at a;host g at b;";
    // IDs 16, 33, 50: a is the root, the link of b and c is a spare one that c shuts.
    private static final String TRIANGLE = "net age 6 delay 2;bridge a prio 1;bridge b prio 2;bridge c prio 3;"
            + "link a to b cost 1 takes 1;link a to c cost 1 takes 1;link b to c cost 1 takes 1;"
            + "host h at a;host g at b;host f at c;";
    // The same with told edges: all links are open at once, a ring.
    private static final String EDGES = "net age 6 delay 2;bridge a prio 1;bridge b prio 2;bridge c prio 3;"
            + "link a edge to b edge cost 1 takes 3;link a edge to c edge cost 1 takes 3;link b edge to c edge cost 1 takes 3;"
            + "host h at a;host g at b;host f at c;";
    private static final String OLD_PAIR = "net age 6 delay 1;bridge a prio 0;bridge b prio 1 old;link a to b cost 3 takes 1;";
    private static final String SELF = "net age 6 delay 2;bridge a prio 1;link a to a cost 1 takes 1;";
    private static final String CHAIN = "net age 2 delay 1;bridge a prio 0;bridge b prio 1;bridge c prio 2;bridge d prio 3;"
            + "link a to b cost 2 takes 1;link b to c cost 3 takes 2;link c to d cost 4 takes 3;";

    private static void due(String call, long got, long want) {
        if (got != want) {
            wrong++;
            System.out.println("promise " + promise + ": " + call + " answered " + got + ", due is " + want);
        }
    }
    private static void due(String call, boolean got, boolean want) { due(call, got ? 1 : 0, want ? 1 : 0); }

    private static void put(WaveBridges x, int... bytes) {
        for (int at = 0; at < bytes.length; at += 20) {
            int[] v = new int[5];
            for (int k = 0; k < 20; k++) v[k / 4] = v[k / 4] << 8 | (at + k < bytes.length ? bytes[at + k] & 255 : 0);
            x.feed(v[0], v[1], v[2], v[3], v[4]);
        }
        x.end(bytes.length);
    }
    private static void put(WaveBridges x, String text) {
        put(x, text.chars().toArray());
    }
    private static WaveBridges of(String text) {
        WaveBridges x = new WaveBridges();
        put(x, text);
        if (x.net() == NONE) due("net of " + text, NONE, 1);
        return x;
    }
    private static WaveBridges of(String text, int steps) {
        WaveBridges x = of(text);
        x.run(steps);
        return x;
    }
    private static void row(String what, java.util.function.IntUnaryOperator asked, int... want) {
        for (int k = 0; k < want.length; k++) due(what + k + ")", asked.applyAsInt(k), want[k]);
    }
    private static void portIs(WaveBridges x, int b, int p, int... want) { row("port(" + b + ", " + p + ", ", k -> x.port(b, p, k), want); }
    private static void bridgeIs(WaveBridges x, int b, int... want) { row("bridge(" + b + ", ", k -> x.bridge(b, k), want); }
    private static void heldIs(WaveBridges x, int b, int p, int... want) { row("held(" + b + ", " + p + ", ", k -> x.held(b, p, k), want); }
    private static void messageIs(WaveBridges x, int n, int... want) { row("message(" + n + ", ", k -> x.message(n, k), want); }
    private static void keptIs(WaveBridges x, int n, int... want) { row("kept(" + n + ", ", k -> x.kept(n, k), want); }

    private static void newObject() {
        promise = 1;
        WaveBridges x = new WaveBridges();
        row("has(", x::has, 0, 0, 0, 0, 0, 0, 0, 0, 0, 0, 0, 0, 1, NONE);
        due("NONE", WaveBridges.NONE, -1);
        row("status(", x::status, 0, 0, 0, 0, 0, 0, NONE);
    }

    private static void feed() {
        promise = 2;
        WaveBridges x = new WaveBridges();
        for (int k = 1; k <= 80; k++) due("feed " + k, x.feed(k, 0, 0, 0, 0), 20 * k);
        due("feed 81", x.feed(1, 2, 3, 4, 5), NONE);
        due("status(0)", x.status(0), 1);
        due("end(1600)", x.end(1600), true);
        due("end(1581)", x.end(1581), true);
        due("feed of 1601", x.feed(1, 2, 3, 4, 5), NONE);
        due("end(1580)", x.end(1580), true);
        due("feed of 1600", x.feed(1, 2, 3, 4, 5), 1600);
        // Bytes above 127 and the order of bytes: an image of no bridges is the one byte 151.
        WaveBridges y = of("net age 6 delay 2;");
        due("feed", y.feed(151 << 24, 0, 0, 0, 0), 20);
        y.end(1);
        due("on() by the highest byte", y.on(), true);
        WaveBridges z = of(PAIR);
        z.feed(0x00000101, 0x00020000, 0, 0, 0);
        z.end(6);
        due("see() of bytes in order", z.see(0), 2);
    }

    private static void end() {
        promise = 3;
        WaveBridges x = new WaveBridges();
        due("end(1) of none", x.end(1), false);
        due("end(0) of none", x.end(0), true);
        x.feed(1, 2, 3, 4, 5);
        due("end(-1)", x.end(-1), false);
        due("end(21)", x.end(21), false);
        due("status(0)", x.status(0), 3);
        due("end(20)", x.end(20), true);
        due("end(7)", x.end(7), true);
        due("end(8)", x.end(8), false);
        due("feed", x.feed(1, 2, 3, 4, 5), 27);
        due("end(" + Integer.MIN_VALUE + ")", x.end(Integer.MIN_VALUE), false);
        due("end(" + Integer.MAX_VALUE + ")", x.end(Integer.MAX_VALUE), false);
    }

    private static void net() {
        promise = 4;
        WaveBridges x = new WaveBridges();
        due("net() of none", x.net(), NONE);
        put(x, PAIR);
        due("net()", x.net(), 6);
        due("the tape is gone", x.end(1), false);
        x.seed(77);
        x.run(20);
        x.send(0, 1);
        put(x, 0, 0, 1);
        x.see(3);
        put(x, "net age 6 delay 2;bridge a");
        due("net() with a fault", x.net(), NONE);
        due("status(1)", x.status(1), 2);
        due("the tape is gone with a fault", x.end(1), false);
        row("has(", x::has, 2, 1, 2, 20, 0, 2, 1, 1, 0, 2, 1, 2, 77);
        due("frame(0) stays", x.frame(0), 1);
        put(x, PAIR);
        due("net() anew", x.net(), 6);
        row("has(", x::has, 2, 1, 2, 0, 0, 2, 1, 0, 0, 0, 0, 0, 77);
        due("frame(0) of none", x.frame(0), NONE);
        due("address(0, 0, 0)", x.address(0, 0, 0), NONE);
        due("undo()", x.undo(), false);
        put(x, "\n net\nage 2 delay 9 ;");
        due("net() of one", x.net(), 1);
        row("has(", x::has, 0, 0, 0, 0, 0, 0, 0, 0, 0, 0, 0, 0, 77);
        due("when()", x.when(), 0);
        due("run(1)", x.run(1), 1);
        // Nothing of an earlier net stays in a later one: neither edges nor names nor ports.
        for (String text : new String[] {EDGES, EDGES, TRIANGLE, PAIR, TRIANGLE}) {
            put(x, text);
            x.net();
            due("as on a new object", told(x).equals(told(of(text))), true);
        }
        // A net smaller than the one before keeps nothing of it.
        WaveBridges y = of(TRIANGLE, 30);
        put(y, "net age 6 delay 2;bridge z prio 4;host y at z;");
        due("net()", y.net(), 3);
        bridgeIs(y, 0, 64, 0, 0, 1, 64, 0, NONE, 0, 0);
        due("bridge(1, 0)", y.bridge(1, 0), NONE);
        due("link(0, 0)", y.link(0, 0), NONE);
        due("letter(1, 1, 0)", y.letter(1, 1, 0), NONE);
    }

    private static void faultOf(String text, int fault, int place) {
        WaveBridges x = new WaveBridges();
        put(x, text);
        due("net() of '" + text + "'", x.net() == NONE, fault != 0);
        due("fault(0) of '" + text + "'", x.fault(0), fault);
        due("fault(1) of '" + text + "'", x.fault(1), place);
    }

    private static void fault() {
        promise = 5;
        WaveBridges x = new WaveBridges();
        due("fault(0) ahead of any", x.fault(0), 0);
        due("fault(1) ahead of any", x.fault(1), NONE);
        for (int what : new int[] {-1, 2, Integer.MIN_VALUE, Integer.MAX_VALUE}) due("fault of another", x.fault(what), NONE);
        faultOf("", 1, 0);
        faultOf(" \n ", 1, 3);
        faultOf(";", 1, 0);
        faultOf("ne", 1, 0);
        faultOf("nets age 6 delay 1;", 1, 0);
        faultOf("Net age 6 delay 1;", 1, 0);
        faultOf("net", 1, 3);
        faultOf("net  ", 1, 5);
        faultOf("net age", 1, 7);
        faultOf("net age6 delay 1;", 1, 7);
        faultOf("net age 6delay 1;", 1, 9);
        faultOf("net age x delay 1;", 1, 8);
        faultOf("net age -6 delay 1;", 1, 8);
        faultOf("net age 1 delay 1;", 2, 8);
        faultOf("net age 1x", 2, 8);
        faultOf("net age 21 delay 1;", 2, 8);
        faultOf("net age 1234 delay 1;", 1, 11);
        faultOf("net age 020 delay 009;", 0, NONE);
        faultOf("net age 20 delay 10;", 2, 17);
        faultOf("net age 20 delay 0;", 2, 17);
        faultOf("net age 2 delay 1", 1, 17);
        faultOf("net age 2 delay 1;net age 2 delay 1;", 1, 18);
        faultOf("net age 2 delay 1;;", 1, 18);
        faultOf("net\tage 2 delay 1;", 1, 3);
        faultOf("net age 2 delay 1;bridge", 1, 24);
        faultOf("net age 2 delay 1;bridge at prio 1;", 1, 25);
        faultOf("net age 2 delay 1;bridge abcdef prio 1;", 0, NONE);
        faultOf("net age 2 delay 1;bridge abcdefg prio 1;", 1, 31);
        faultOf("net age 2 delay 1;bridge bridges prio 1;", 1, 31);
        faultOf("net age 2 delay 1;bridge 7 prio 1;", 1, 25);
        faultOf("net age 2 delay 1;bridge a1 prio 1;", 1, 26);
        faultOf("net age 2 delay 1;bridge a prio 16;", 2, 32);
        faultOf("net age 2 delay 1;bridge a prio 15old;", 1, 34);
        faultOf("net age 2 delay 1;bridge a prio 15 old;", 0, NONE);
        faultOf("net age 2 delay 1;bridge a prio 15 old old;", 1, 39);
        faultOf("net age 2 delay 1;bridge a prio 15 olds;", 1, 35);
        faultOf("net age 2 delay 1;host h at a;", 3, 28);
        String one = "net age 2 delay 1;bridge a prio 1;";
        faultOf(one + "bridge a prio 1;", 3, 41);
        faultOf(one + "host h at a;bridge h prio 1;", 3, 53);
        faultOf(one + "host a at a;", 3, 39);
        faultOf(one + "host h at h;", 3, 44);
        faultOf(one + "host h at edge;", 1, 44);
        faultOf(one + "host h a;", 1, 41);
        faultOf(one + "link b to a cost 1 takes 1;", 3, 39);
        faultOf(one + "link a to b cost 1 takes 1;", 3, 44);
        faultOf(one + "link a edge edge to a cost 1 takes 1;", 1, 46);
        faultOf(one + "link a edge to a edge cost 200 takes 3;", 0, NONE);
        faultOf(one + "link a to a cost 0 takes 1;", 2, 51);
        faultOf(one + "link a to a cost 201 takes 1;", 2, 51);
        faultOf(one + "link a to a cost 1 takes 0;", 2, 59);
        faultOf(one + "link a to a cost 1 takes 4;", 2, 59);
        faultOf(one + "link a to a cost 1;", 1, 52);
        String self = "link a to a cost 1 takes 1;";
        faultOf(one + self + self + self, 0, NONE);
        faultOf(one + self + self + self + "link a to a cost", 5, 34 + 81 + 5);
        faultOf(one + "bridge b prio 1;link b to a cost 1 takes 1;" + self + self + "link b to a cost 1 takes 1;", 0, NONE);
        faultOf(one + "bridge b prio 1;link b to a cost 1 takes 1;" + self + self + self, 5, 34 + 16 + 27 + 54 + 10);
        limits();
        put(x, PAIR + "x");
        x.net();
        due("fault(0) of the latest", x.fault(0), 1);
        due("fault(1) of the latest", x.fault(1), PAIR.length());
        put(x, PAIR);
        x.net();
        due("fault(0) without", x.fault(0), 0);
        due("fault(1) without", x.fault(1), NONE);
    }

    private static void limits() {
        StringBuilder t = new StringBuilder("net age 2 delay 1;");
        for (int k = 0; k < 8; k++) t.append("bridge ").append((char) ('a' + k)).append(" prio 1;");
        String bridges = t.toString();
        faultOf(bridges, 0, NONE);
        faultOf(bridges + " bridge", 5, bridges.length() + 1);
        faultOf(bridges + "bridgex", 1, bridges.length());
        for (int k = 0; k < 14; k++) t.append("link ").append((char) ('a' + k / 2)).append(" to h cost 1 takes 1;".replace('h', (char) ('a' + (k / 2 + 1 + k % 2) % 8)));
        String links = t.toString();
        faultOf(links, 0, NONE);
        faultOf(links + "link h", 5, links.length());
        StringBuilder h = new StringBuilder(links);
        for (int k = 0; k < 8; k++) h.append("host h").append((char) ('a' + k)).append(" at h;");
        faultOf(h.toString(), 0, NONE);
        faultOf(h + "host 7", 5, h.length());
        WaveBridges x = of(h.toString());
        row("has(", x::has, 8, 14, 8, 0, 0, 8, 14);
        due("image()", x.image(), 24 + 14 + 8 + 1);
    }

    private static void has() {
        promise = 6;
        WaveBridges x = of(PAIR);
        row("has(", x::has, 2, 1, 2, 0, 0, 2, 1, 0, 0, 0, 0, 0, 1, NONE);
        x.run(1);
        due("messages", x.has(4), 2);
        x.run(2);
        row("has(", x::has, 2, 1, 2, 3, 2, 2, 1, 1, 0, 2, 0, 2, 1, NONE);
        x.stop(0);
        row("has(", x::has, 2, 1, 2, 3, 0, 1, 1, 0, 0, 2, 0, 3, 1, NONE);
        x.cut(0);
        due("WHOLE", x.has(6), 0);
        for (int what : new int[] {-1, 13, Integer.MIN_VALUE, Integer.MAX_VALUE}) due("has of another", x.has(what), NONE);
        // Flushed are addresses that go by a change, but no other ones: c turns to its spare link.
        WaveBridges y = of(TRIANGLE, 40);
        y.send(0, 2);
        y.send(2, 0);
        y.send(1, 0);
        due("b has f at the way to a", y.address(1, 2, 0), NONE);
        due("c has h at the way to a", y.address(2, 0, 0), 0);
        due("nothing is flushed", y.has(8), 0);
        y.stop(1);
        due("nothing is flushed by going down", y.has(8), 0);
        y.undo();
        y.send(2, 1);
        due("a has f", y.address(0, 2, 0), 1);
        due("b has f", y.address(1, 2, 0), 0);
        y.cut(1);
        due("a lost f", y.address(0, 2, 0), NONE);
        due("b has f still", y.address(1, 2, 0), 0);
        due("nothing is flushed by a cut", y.has(8), 0);
        // c's spare port opens at once; its change, once agreed by b, flushes f and h at b's other port and g at a.
        y.run(16);
        due("flushed", y.has(8) > 0, true);
        due("b lost f", y.address(1, 2, 0), NONE);
        due("b has its own g", y.address(1, 1, 0), 6);
        y.undo();
        due("what is undone was not flushed", y.has(8), 0);
    }

    private static void letter() {
        promise = 7;
        WaveBridges x = of("net age 6 delay 2;bridge az prio 1;bridge abcdef prio 1;host zzz at az;");
        row("letter(0, 0, ", k -> x.letter(0, 0, k), 1, 26, 0, 0, 0, 0, NONE);
        row("letter(0, 1, ", k -> x.letter(0, 1, k), 1, 2, 3, 4, 5, 6, NONE);
        row("letter(1, 0, ", k -> x.letter(1, 0, k), 26, 26, 26, 0, 0, 0, NONE);
        due("letter(0, 0, -1)", x.letter(0, 0, -1), NONE);
        due("letter(0, 2, 0)", x.letter(0, 2, 0), NONE);
        due("letter(1, 1, 0)", x.letter(1, 1, 0), NONE);
        due("letter(2, 0, 0)", x.letter(2, 0, 0), NONE);
        due("letter(-1, 0, 0)", x.letter(-1, 0, 0), NONE);
    }

    private static void link() {
        promise = 8;
        WaveBridges x = of("net age 6 delay 2;bridge a prio 1;bridge b prio 0;link b to b cost 7 takes 3;link a to b cost 5 takes 2;");
        row("link(0, ", k -> x.link(0, k), 1, 0, 1, 1, 7, 3, 1, 0, NONE);
        row("link(1, ", k -> x.link(1, k), 0, 0, 1, 2, 5, 2, 1, 0, NONE);
        x.run(20);
        due("OPEN", x.link(1, 7), 1);
        due("one end of the self link is SHUT", x.link(0, 7), 0);
        x.cut(1);
        due("WHOLE", x.link(1, 6), 0);
        due("OPEN", x.link(1, 7), 0);
        due("link(2, 0)", x.link(2, 0), NONE);
        due("link(-1, 0)", x.link(-1, 0), NONE);
        due("link(0, -1)", x.link(0, -1), NONE);
    }

    private static void bridge() {
        promise = 9;
        WaveBridges x = of(CHAIN);
        bridgeIs(x, 2, 34, 2, 0, 1, 34, 0, NONE, 0, 0, NONE);
        x.run(10);
        bridgeIs(x, 0, 0, 1, 0, 1, 0, 0, NONE, 0, 0, NONE);
        bridgeIs(x, 1, 17, 2, 0, 1, 0, 2, 0, 1, 0, NONE);
        bridgeIs(x, 2, 34, 2, 0, 1, 0, 5, 0, 2, 0, NONE);
        // What c tells has grown too old for d: AGE 2 and 1 are more than 2.
        bridgeIs(x, 3, 51, 1, 0, 1, 51, 0, NONE, 0, 0, NONE);
        x.stop(1);
        bridgeIs(x, 1, 17, 2, 0, 0, NONE, NONE, NONE, NONE, NONE, NONE);
        due("bridge(4, 0)", x.bridge(4, 0), NONE);
        due("bridge(-1, 0)", x.bridge(-1, 0), NONE);
        due("bridge(0, -1)", x.bridge(0, -1), NONE);
        // The root is not there any more, but its vector: c has its own root at once, as its root port is down.
        due("c's root", x.bridge(2, 4), 34);
        WaveBridges y = of(OLD_PAIR, 9);
        bridgeIs(y, 1, 17, 1, 1, 1, 0, 3, 0, 1, 7, NONE);
        y.run(8);
        due("SHORT runs down from the answer on", y.bridge(1, 8), 6);
    }

    private static void port() {
        promise = 10;
        WaveBridges x = of(PAIR);
        portIs(x, 0, 0, 2, 0, 2, 0, 0, 0, 0, 0, 0, 1, NONE);
        x.run(1);
        portIs(x, 0, 0, 2, 0, 1, 0, 0, 0, 0, 0, 0, 0, NONE);
        x.run(1);
        portIs(x, 0, 0, 1, 2, 0, 2, 0, 0, 0, 0, 0, 0, NONE);
        portIs(x, 1, 0, 2, 0, 1, 0, 0, 0, 0, 0, 0, 0, NONE);
        x.run(1);
        portIs(x, 1, 0, 2, 2, 0, 2, 1, 0, 0, 0, 0, 0, NONE);
        due("port(0, 1, 0)", x.port(0, 1, 0), NONE);
        due("port(0, -1, 0)", x.port(0, -1, 0), NONE);
        due("port(2, 0, 0)", x.port(2, 0, 0), NONE);
        due("port(-1, 0, 0)", x.port(-1, 0, 0), NONE);
        due("port(0, 0, -1)", x.port(0, 0, -1), NONE);
        // Edges are open at once; what comes in makes them none, and shuts them.
        WaveBridges y = of(EDGES);
        portIs(y, 0, 0, 2, 2, 0, 0, 0, 1, 0, 0, 0, 1, NONE);
        y.run(3);
        portIs(y, 0, 0, 2, 2, 0, 0, 0, 1, 0, 0, 0, 0, NONE);
        y.run(1);
        portIs(y, 0, 0, 2, 0, 2, 0, 0, 0, 0, 0, 0, 0, NONE);
        portIs(y, 1, 0, 1, 2, 0, 2, 0, 0, 0, 0, 0, 0, NONE);
        y.stop(0);
        portIs(y, 0, 0, 0, 0, 0, 0, 0, 0, 0, 0, 0, 0, NONE);
        y.start(0);
        portIs(y, 0, 0, 2, 2, 0, 0, 0, 1, 0, 0, 0, 1, NONE);
        // A new bridge speaks old to an old one.
        WaveBridges z = of(OLD_PAIR, 2);
        due("speaks OLD", z.port(0, 0, 6), 1);
        due("the old one says so itself", z.port(1, 0, 6), 0);
        // A backup owes an agreement that it can't send before the step is over.
        WaveBridges s = of(SELF, 3);
        portIs(s, 0, 0, 2, 2, 0, 2, 1, 0, 0, 0, 0, 0, NONE);
        portIs(s, 0, 1, 4, 0, 0, 0, 0, 0, 0, 0, 0, 0, NONE);
    }

    private static void held() {
        promise = 11;
        WaveBridges x = of(PAIR, 1);
        heldIs(x, 0, 0, NONE, NONE, NONE, NONE, NONE, NONE);
        x.run(1);
        heldIs(x, 0, 0, 1, 0, 1, 0, 0, 3, NONE);
        heldIs(x, 1, 0, NONE, NONE, NONE, NONE, NONE, NONE);
        x.run(7);
        due("LIFE behind a TICK", x.held(0, 0, 5), 2);
        x.run(1);
        due("LIFE anew", x.held(0, 0, 5), 3);
        due("held(0, 0, -1)", x.held(0, 0, -1), NONE);
        due("held(0, 1, 0)", x.held(0, 1, 0), NONE);
        due("held(2, 0, 0)", x.held(2, 0, 0), NONE);
        due("held(-1, 0, 0)", x.held(-1, 0, 0), NONE);
        due("held(0, -1, 0)", x.held(0, -1, 0), NONE);
        WaveBridges c = of(CHAIN, 10);
        heldIs(c, 2, 0, 0, 2, 17, 1, 1, 2, NONE);
        WaveBridges t = of(TRIANGLE, 20);
        heldIs(t, 2, 1, 16, 1, 33, 1, 1, 3, NONE);
    }

    private static void address() {
        promise = 12;
        WaveBridges x = of(PAIR, 3);
        due("address(0, 0, 0)", x.address(0, 0, 0), NONE);
        x.send(0, 1);
        row("address(0, 0, ", k -> x.address(0, 0, k), 6, 0, NONE);
        row("address(1, 0, ", k -> x.address(1, 0, k), 0, 0, NONE);
        row("address(1, 1, ", k -> x.address(1, 1, k), NONE, NONE, NONE);
        x.run(5);
        due("not yet a TICK", x.address(0, 0, 1), 0);
        x.run(1);
        due("a TICK", x.address(0, 0, 1), 1);
        x.run(200);
        due("26 TICKS", x.address(0, 0, 1), 26);
        x.run(24);
        due("29 TICKS", x.address(1, 0, 1), 29);
        x.run(7);
        due("29 TICKS", x.address(1, 0, 1), 29);
        x.run(1);
        due("30 TICKS", x.address(1, 0, 1), NONE);
        due("30 TICKS at the host place", x.address(0, 0, 1), NONE);
        due("address(2, 0, 0)", x.address(2, 0, 0), NONE);
        due("address(0, 2, 0)", x.address(0, 2, 0), NONE);
        due("address(-1, 0, 0)", x.address(-1, 0, 0), NONE);
        due("address(0, -1, 0)", x.address(0, -1, 0), NONE);
        // An old bridge with a short time forgets what is older than the delay, here 1.
        WaveBridges y = of(OLD_PAIR + "host h at a;host g at b;", 11);
        due("SHORT", y.bridge(1, 8), 7);
        y.send(1, 0);
        y.run(6);
        row("address(1, 1, ", k -> y.address(1, 1, k), 6, 1);
        y.run(8);
        row("address(1, 1, ", k -> y.address(1, 1, k), NONE, NONE);
        row("address(0, 1, ", k -> y.address(0, 1, k), 0, 2);
    }

    private static void message() {
        promise = 13;
        WaveBridges x = of(PAIR);
        messageIs(x, 0, NONE, NONE);
        x.run(1);
        messageIs(x, 0, 1, 0, 0, 0, 1, 0, 1, 0, 0, 1, NONE);
        messageIs(x, 1, 1, 1, 0, 0, 16, 0, 16, 0, 0, 1, NONE);
        x.run(1);
        messageIs(x, 0, 2, 0, 0, 0, 1, 0, 1, 0, 0, 1, NONE);
        messageIs(x, 1, 2, 1, 0, 1, 1, 0, 1, 0, 0, 6, NONE);
        x.run(1);
        messageIs(x, 0, 3, 0, 0, 0, 1, 0, 1, 0, 0, 4, NONE);
        messageIs(x, 1, 3, 1, 0, 1, 1, 0, 1, 0, 0, 6, NONE);
        due("message(2, 0)", x.message(2, 0), NONE);
        due("message(-1, 0)", x.message(-1, 0), NONE);
        due("message(0, -1)", x.message(0, -1), NONE);
        // Those of slower links arrive later, whichever bridge is theirs.
        WaveBridges c = of(CHAIN, 1);
        int[][] want = {{1, 0, 0}, {1, 1, 0}, {2, 1, 1}, {2, 2, 0}, {3, 2, 1}, {3, 3, 0}};
        for (int k = 0; k < want.length; k++) messageIs(c, k, want[k]);
        c.run(1);
        messageIs(c, 0, 2, 0, 0);
        c.cut(1);
        due("those of a cut link are gone", c.has(4), 4);
        WaveBridges y = of(OLD_PAIR, 10);
        messageIs(y, 0, 10, 1, 0, 0, 0, 0, 0, 0, 0, 28, NONE);
        // Its AGE goes along with a CONFIG: b's to c.
        WaveBridges z = of(CHAIN, 9);
        int n = 0;
        while (n < 9 && (z.message(n, 1) != 2 || z.message(n, 2) != 0)) n++;
        messageIs(z, n, 10, 2, 0, 0, 0, 2, 17, 1, 1);
    }

    private static void kept() {
        promise = 14;
        WaveBridges x = of(PAIR, 3);
        keptIs(x, 0, 1, 0, 0, 2, NONE);
        keptIs(x, 1, 2, 1, 0, 2, NONE);
        due("kept(2, 0)", x.kept(2, 0), NONE);
        due("kept(-1, 0)", x.kept(-1, 0), NONE);
        due("kept(0, -1)", x.kept(0, -1), NONE);
        x.cut(0);
        due("not of going down", x.has(9), 2);
        x.mend(0);
        due("not of coming up", x.has(9), 2);
        // Nobody beyond: b alone learns and opens by waiting; 4 TICKS from STEP 8 on.
        WaveBridges o = of("net age 6 delay 2;bridge a prio 1;bridge b prio 2 old;link a to b cost 1 takes 1;", 40);
        keptIs(o, 0, 8, 0, 0, 1);
        keptIs(o, 1, 8, 1, 0, 1);
        keptIs(o, 2, 24, 0, 0, 2);
        keptIs(o, 3, 24, 1, 0, 2);
        due("not as edges open at first", of(EDGES).has(9), 0);
        // Forty at most, the oldest goes.
        WaveBridges y = of(PAIR);
        for (int k = 0; k < 21; k++) {
            y.run(4);
            y.cut(0);
            y.mend(0);
        }
        due("has(9)", y.has(9), 40);
        y.run(1);
        int last = y.kept(39, 0);
        due("the newest is of the last turns", last > 70, true);
        due("kept(40, 0)", y.kept(40, 0), NONE);
        due("the oldest went", y.kept(0, 0) > 1, true);
    }

    private static void dues() {
        promise = 15;
        WaveBridges x = of(TRIANGLE);
        row("due(0, ", k -> x.due(0, k), 16, 0, NONE, NONE);
        row("due(1, ", k -> x.due(1, k), 16, 1, 0, NONE);
        row("due(2, ", k -> x.due(2, k), 16, 1, 0, NONE);
        x.cut(1);
        row("due(2, ", k -> x.due(2, k), 16, 2, 1, NONE);
        x.stop(0);
        row("due(0, ", k -> x.due(0, k), NONE, NONE, NONE, NONE);
        row("due(1, ", k -> x.due(1, k), 33, 0, NONE, NONE);
        x.prio(2, 0);
        row("due(1, ", k -> x.due(1, k), 2, 1, 1, NONE);
        due("due(3, 0)", x.due(3, 0), NONE);
        due("due(-1, 0)", x.due(-1, 0), NONE);
        due("due(1, -1)", x.due(1, -1), NONE);
        // Of two like ways the one to the lesser ID, then the lesser PORT there, then the own one.
        WaveBridges y = of("net age 6 delay 2;bridge d prio 9;bridge r prio 0;bridge b prio 5;bridge c prio 4;"
                + "link r to b cost 3 takes 1;link r to c cost 3 takes 1;link d to b cost 4 takes 1;"
                + "link c to d cost 4 takes 1;link c to d cost 4 takes 1;");
        row("due(0, ", k -> y.due(0, k), 1, 7, 1, NONE);
        due("role", y.role(0, 0), 3);
        due("role", y.role(0, 2), 3);
        y.run(40);
        due("rests()", y.rests(), true);
        bridgeIs(y, 0, 144, 3, 0, 1, 1, 7, 1, 2, 0);
    }

    private static void role() {
        promise = 16;
        WaveBridges x = of(TRIANGLE);
        int[][] want = {{2, 2}, {1, 2}, {1, 3}};
        for (int b = 0; b < 3; b++) for (int p = 0; p < 2; p++) due("role(" + b + ", " + p + ")", x.role(b, p), want[b][p]);
        x.cut(2);
        due("role of one not UP", x.role(2, 1), 0);
        due("role(2, 2)", x.role(2, 2), NONE);
        due("role(3, 0)", x.role(3, 0), NONE);
        due("role(-1, 0)", x.role(-1, 0), NONE);
        due("role(0, -1)", x.role(0, -1), NONE);
        WaveBridges s = of(SELF);
        due("role(0, 0)", s.role(0, 0), 2);
        due("role(0, 1)", s.role(0, 1), 4);
    }

    private static void rests() {
        promise = 17;
        due("rests() of none", new WaveBridges().rests(), true);
        due("rests() of no bridges", of("net age 6 delay 2;").rests(), true);
        WaveBridges x = of(PAIR, 2);
        due("rests() behind 2", x.rests(), false);
        x.run(1);
        due("rests() behind 3", x.rests(), true);
        x.cut(0);
        due("rests() apart", x.rests(), true);
        x.mend(0);
        due("rests() anew", x.rests(), false);
        due("rests() of edges that are open on both sides", of(EDGES).rests(), false);
        due("rests() of one that is too far", of(CHAIN, 200).rests(), false);
        // Without link 1 all roles and states are as due at once; but d has not heard yet that its way costs 1 more.
        WaveBridges t = of("net age 6 delay 2;bridge a prio 1;bridge b prio 2;bridge c prio 3;bridge d prio 4;link a to b cost 1 takes 1;"
                + "link a to c cost 1 takes 1;link b to c cost 1 takes 1;link c to d cost 1 takes 1;", 41);
        due("rests()", t.rests(), true);
        t.cut(1);
        due("rests() with an old COST", t.rests(), false);
        due("when()", t.when(), 2);
        t.run(2);
        due("rests()", t.rests(), true);
    }

    private static void when() {
        promise = 18;
        due("when() of none", new WaveBridges().when(), NONE);
        due("when() of no bridges", of("net age 6 delay 2;").when(), 0);
        WaveBridges x = of(PAIR);
        due("when()", x.when(), 3);
        due("has(3) stays", x.has(3), 0);
        x.run(1);
        due("when()", x.when(), 2);
        x.run(2);
        due("when()", x.when(), 0);
        due("when() of one that is too far", of(CHAIN).when(), NONE);
        // Old ones open by waiting: TICKS at 0, 8, .. : the 18th is in STEP 136.
        WaveBridges o = of("net age 6 delay 9;bridge a prio 1 old;bridge b prio 2 old;link a to b cost 1 takes 1;");
        due("when() of old ones", o.when(), 137);
        due("when() at the self link", of(SELF).when(), 3);
    }

    private static void ring() {
        promise = 19;
        due("ring(0) of none", new WaveBridges().ring(0), 0);
        due("ring(1) of none", new WaveBridges().ring(1), NONE);
        WaveBridges x = of(EDGES);
        row("ring(", x::ring, 1, 0, NONE);
        due("ring(-1)", x.ring(-1), NONE);
        x.cut(0);
        row("ring(", x::ring, 0, NONE, NONE);
        WaveBridges y = of("net age 6 delay 2;bridge a prio 1;bridge b prio 2;bridge c prio 3;link a edge to b edge cost 1 takes 1;"
                + "link b edge to c edge cost 1 takes 1;link c edge to b edge cost 1 takes 1;link b edge to c edge cost 1 takes 1;");
        row("ring(", y::ring, 2, 1, NONE);
        WaveBridges s = of("net age 6 delay 2;bridge a prio 1;bridge b prio 1;link a edge to b edge cost 1 takes 1;"
                + "link b edge to b edge cost 1 takes 1;");
        row("ring(", s::ring, 1, 1, NONE);
    }

    private static void rings() {
        promise = 20;
        due("rings(1) of none", new WaveBridges().rings(1), NONE);
        WaveBridges x = of(EDGES);
        // The links take 3: what was sent in STEP 0 is read in STEP 3, behind 4 STEPS.
        due("rings(3)", x.rings(3), 3);
        due("rings(200)", x.rings(200), 3);
        due("has(3) stays", x.has(3), 0);
        for (int n : new int[] {0, -1, 201, Integer.MIN_VALUE, Integer.MAX_VALUE}) due("rings(" + n + ")", x.rings(n), NONE);
        due("rings(200) of no ring", of(TRIANGLE).rings(200), 0);
    }

    private static void joined() {
        promise = 21;
        WaveBridges x = of(CHAIN);
        due("joined(0, 1) at first", x.joined(0, 1), NONE);
        x.run(40);
        due("joined(0, 0)", x.joined(0, 0), 0);
        due("joined(0, 2)", x.joined(0, 2), 2);
        due("joined(2, 0)", x.joined(2, 0), 2);
        due("joined(3, 1) by a link open by waiting", x.joined(3, 1), 2);
        x.stop(1);
        due("joined(0, 2)", x.joined(0, 2), NONE);
        due("joined(1, 1)", x.joined(1, 1), NONE);
        due("joined(0, 1)", x.joined(0, 1), NONE);
        due("joined(0, 4)", x.joined(0, 4), NONE);
        due("joined(-1, 0)", x.joined(-1, 0), NONE);
        due("joined(0, -1)", x.joined(0, -1), NONE);
    }

    private static void leads() {
        promise = 22;
        WaveBridges x = of(PAIR, 3);
        due("leads(0, 0) without an address", x.leads(0, 0), NONE);
        x.send(0, 1);
        due("leads(0, 0)", x.leads(0, 0), 0);
        due("leads(1, 0)", x.leads(1, 0), 1);
        due("leads(0, 1)", x.leads(0, 1), NONE);
        x.move(0, 1);
        due("leads(0, 0) to one that moved", x.leads(0, 0), NONE);
        due("leads(1, 0) to one that moved", x.leads(1, 0), NONE);
        due("leads(2, 0)", x.leads(2, 0), NONE);
        due("leads(0, 2)", x.leads(0, 2), NONE);
        due("leads(-1, 0)", x.leads(-1, 0), NONE);
        due("leads(0, -1)", x.leads(0, -1), NONE);
        // Two bridges that have it from one another lead nowhere.
        WaveBridges s = of("net age 6 delay 2;bridge a prio 1;bridge b prio 2;link a edge to b edge cost 1 takes 3;"
                + "link a edge to b edge cost 1 takes 3;host h at a;host g at b;");
        s.send(0, 1);
        due("frame(2)", s.frame(2), 1);
        due("leads(1, 0) around", s.leads(1, 0), NONE);
    }

    private static void heal() {
        promise = 23;
        due("heal(0) of none", new WaveBridges().heal(0), NONE);
        WaveBridges x = of(TRIANGLE, 20);
        due("heal(2): the spare one", x.heal(2), 0);
        // c hears nothing any more but of b: its spare port opens at once, and b's is open, as c agreed to it.
        due("heal(1)", x.heal(1), 0);
        due("cut by heal(), but not now", x.has(6), 3);
        due("has(3) stays", x.has(3), 20);
        due("heal(3)", x.heal(3), NONE);
        due("heal(-1)", x.heal(-1), NONE);
        x.cut(0);
        due("heal of one that is cut", x.heal(0), NONE);
        WaveBridges y = of(PAIR);
        due("heal of one without another: nobody to join", y.heal(0), 0);
        WaveBridges o = of("net age 6 delay 9;bridge a prio 1 old;bridge b prio 2 old;bridge c prio 3 old;"
                + "link a to b cost 1 takes 1;link a to c cost 1 takes 1;link b to c cost 1 takes 1;", 200);
        // Cut behind the TICK at STEP 192: c waits 9 TICKS, then 9, the last one in STEP 336: behind 137 STEPS.
        due("heal(1) of old ones", o.heal(1), 137);
    }

    private static void worst() {
        promise = 24;
        due("worst(0) of none", new WaveBridges().worst(0), NONE);
        WaveBridges o = of("net age 6 delay 9;bridge a prio 1 old;bridge b prio 2 old;bridge c prio 3 old;"
                + "link a to b cost 1 takes 1;link a to c cost 1 takes 1;link b to c cost 1 takes 1;", 200);
        // Without link 0 b is its own root until c hears of it, in STEP 201: c's spare port waits from then on, 18 TICKS
        // from STEP 208 on, the last one in STEP 344.
        due("heal(0)", o.heal(0), 145);
        due("worst(0)", o.worst(0), 0);
        due("worst(1)", o.worst(1), 145);
        o.cut(0);
        due("worst(0) of those WHOLE", o.worst(0) != 0, true);
        due("worst(2)", o.worst(2), NONE);
        due("worst(-1)", o.worst(-1), NONE);
        WaveBridges x = of(TRIANGLE, 20);
        x.cut(0);
        x.cut(1);
        x.run(40);
        due("worst(0) of like ones but those cut", x.worst(0), 2);
        due("worst(1)", x.worst(1), 0);
        x.cut(2);
        due("worst(0) without one", x.worst(0), NONE);
        due("worst(1) without one", x.worst(1), NONE);
    }

    private static void see() {
        promise = 25;
        WaveBridges x = new WaveBridges();
        put(x, 0, 0, 1);
        due("see(0) of none", x.see(0), NONE);
        due("status(5)", x.status(5), 1);
        due("the tape is gone", x.end(1), false);
        WaveBridges y = of(TRIANGLE);
        put(y, 2, 1, 4, 0, 0, 0);
        due("see(80)", y.see(80), 2);
        due("the tape is gone", y.end(1), false);
        due("has(10)", y.has(10), 2);
        int[][] bad = {{}, {0}, {0, 0}, {0, 0, 1, 0}, {3, 0, 1}, {0, 2, 1}, {0, 0, 5}, {255, 0, 0}, {0, 255, 0}, {0, 0, 255}};
        for (int[] tape : bad) {
            put(y, tape);
            due("see(0) of a wrong tape", y.see(0), NONE);
            due("the tape is gone", y.end(1), false);
        }
        for (int n : new int[] {-1, 81, Integer.MIN_VALUE, Integer.MAX_VALUE}) {
            put(y, 0, 0, 1);
            due("see(" + n + ")", y.see(n), NONE);
        }
        due("status(5)", y.status(5), 14);
        due("has(10) stays", y.has(10), 2);
        put(y, new int[48]);
        due("see of 16", y.see(0), 16);
        put(y, new int[51]);
        due("see of 17", y.see(0), NONE);
        due("no ACT", y.has(11), 0);
    }

    private static void suspect() {
        promise = 26;
        due("suspect(-1) of none", new WaveBridges().suspect(NONE), NONE);
        due("suspect(0) of none", new WaveBridges().suspect(0), NONE);
        WaveBridges x = of(TRIANGLE, 40);
        row("suspect by nothing ", k -> x.suspect(k - 1), 4, 0, 1, 2, 3, NONE);
        due("suspect(-2)", x.suspect(-2), NONE);
        due("suspect(16)", x.suspect(16), NONE);
        put(x, 2, 1, 1);
        x.see(10);
        row("c's spare port is its root port ", k -> x.suspect(k - 1), 1, 1, NONE, NONE);
        put(x, 2, 1, 3);
        x.see(0);
        row("c's spare port is alternate at once ", k -> x.suspect(k - 1), 2, 0, 3, NONE, NONE);
        put(x, 2, 1, 3);
        x.see(10);
        row("c's spare port is alternate still ", k -> x.suspect(k - 1), 1, 3, NONE, NONE, NONE);
        put(x, 2, 1, 3, 2, 1, 4);
        x.see(0);
        row("nothing fits ", k -> x.suspect(k - 1), 0, NONE, NONE);
        x.cut(1);
        put(x, 0, 1, 0);
        x.see(0);
        row("those WHOLE, and none ", k -> x.suspect(k - 1), 3, 0, 2, 3, NONE);
        due("none is cut by it", x.has(6), 2);
        // Nothing SEEN any more: behind 0 STEPS, where b and c have not told one another anything.
        put(x, 2, 1, 1);
        x.see(80);
        put(x, TRIANGLE);
        x.net();
        row("suspect by nothing ", k -> x.suspect(k - 1), 4, 0, 1, 2, 3, NONE);
        row("tells(", x::tells, 0, 0, 3);
    }

    private static void tells() {
        promise = 27;
        due("tells(0) of none", new WaveBridges().tells(0), NONE);
        due("tells(0) of no ports", of("net age 6 delay 2;bridge a prio 1;").tells(0), NONE);
        WaveBridges x = of(TRIANGLE, 40);
        // At once: cuts of links 0, 1, 2, or none. Port 0 of a: 0 222; a's 1: 2 0 2 2; b's 0: 0 1 1 1; b's 1 (b its own
        // root: 2, so as ever, but when link 2 is cut): 2 2 0 2; c's 0: 1 0 1 1; c's 1: 3 1 0 3: two left at most.
        row("tells(", x::tells, 2, 1, 2, NONE);
        due("tells(-1)", x.tells(-1), NONE);
        put(x, 2, 1, 0);
        x.see(0);
        // One suspect: every port tells as much, the first is told.
        row("tells(", x::tells, 0, 0, 1, NONE);
        put(x, 2, 1, 4);
        x.see(0);
        row("tells without suspects(", x::tells, NONE, NONE, NONE, NONE);
    }

    private static void centre() {
        promise = 28;
        due("centre(0) of none", new WaveBridges().centre(0), NONE);
        WaveBridges x = of(CHAIN);
        // Sums from a: 2 5 9 = 16; b: 2 3 7 = 12; c: 5 3 4 = 12; d: 9 7 4 = 20.
        row("centre(", x::centre, 1, 4, 12, NONE);
        due("centre(-1)", x.centre(-1), NONE);
        x.cut(0);
        row("centre(", x::centre, 2, 3, 7, NONE);
        x.stop(2);
        row("centre(", x::centre, 0, 1, 0, NONE);
        x.stop(0);
        row("centre(", x::centre, 1, 1, 0, NONE);
        x.stop(1);
        x.stop(3);
        row("centre of none ON(", x::centre, NONE, NONE, NONE, NONE);
    }

    private static void run() {
        promise = 29;
        due("run(1) of none", new WaveBridges().run(1), NONE);
        WaveBridges x = of("net age 6 delay 2;bridge a prio 1;");
        for (int n : new int[] {0, -1, 201, Integer.MIN_VALUE, Integer.MAX_VALUE}) due("run(" + n + ")", x.run(n), NONE);
        due("status(2)", x.status(2), 5);
        due("has(11)", x.has(11), 0);
        due("run(1)", x.run(1), 1);
        for (int k = 0; k < 49; k++) x.run(200);
        due("has(3)", x.has(3), 9801);
        due("run(199)", x.run(199), NONE);
        due("run(198)", x.run(198), 9999);
        due("run(1) at the end", x.run(1), NONE);
        due("status(2)", x.status(2), 7);
        due("has(11)", x.has(11), 20);
        due("when() at the end", x.when(), 0);
    }

    private static void cut() {
        promise = 30;
        due("cut(0) of none", new WaveBridges().cut(0), false);
        WaveBridges x = of(PAIR, 3);
        x.send(0, 1);
        due("cut(0)", x.cut(0), true);
        portIs(x, 0, 0, 0, 0, 0, 0, 0, 0, 0, 0, 0, 0);
        portIs(x, 1, 0, 0, 0, 0, 0, 0, 0, 0, 0, 0, 0);
        bridgeIs(x, 0, 16, 1, 0, 1, 16, 0, NONE, 0, 0);
        due("messages are gone", x.has(4), 0);
        due("addresses learnt there are gone", x.address(1, 0, 0), NONE);
        due("those at the host place are not", x.address(0, 0, 0), 6);
        due("cut(0) twice", x.cut(0), false);
        due("cut(1)", x.cut(1), false);
        due("cut(-1)", x.cut(-1), false);
        due("status(3)", x.status(3), 3);
    }

    private static void mend() {
        promise = 31;
        due("mend(0) of none", new WaveBridges().mend(0), false);
        WaveBridges x = of(PAIR, 3);
        due("mend of one that is WHOLE", x.mend(0), false);
        x.cut(0);
        due("mend(0)", x.mend(0), true);
        portIs(x, 0, 0, 2, 0, 2, 0, 0, 0, 0, 0, 0, 1);
        due("mend(1)", x.mend(1), false);
        due("mend(-1)", x.mend(-1), false);
        due("status(3)", x.status(3), 3);
        // Mended while a bridge is off: WHOLE, but not UP.
        x.cut(0);
        x.stop(1);
        due("mend(0)", x.mend(0), true);
        portIs(x, 0, 0, 0, 0, 0, 0, 0, 0, 0, 0, 0, 0);
        due("WHOLE", x.link(0, 6), 1);
        x.start(1);
        portIs(x, 0, 0, 2, 0, 2, 0, 0, 0, 0, 0, 0, 1);
        WaveBridges e = of(EDGES, 10);
        e.cut(0);
        e.mend(0);
        portIs(e, 0, 0, 2, 2, 0, 0, 0, 1, 0, 0, 0, 1);
    }

    private static void stop() {
        promise = 32;
        due("stop(0) of none", new WaveBridges().stop(0), false);
        WaveBridges x = of(TRIANGLE, 20);
        x.send(0, 2);
        due("stop(0)", x.stop(0), true);
        due("address(0, 0, 0)", x.address(0, 0, 0), NONE);
        due("address(1, 0, 0)", x.address(1, 0, 0), NONE);
        portIs(x, 1, 0, 0, 0, 0, 0, 0, 0, 0, 0, 0, 0);
        bridgeIs(x, 1, 33, 2, 0, 1, 33, 0, NONE, 0, 0);
        // c holds still what b told of a: it goes that way, until b tells better.
        bridgeIs(x, 2, 50, 2, 0, 1, 16, 2, 1, 2, 0);
        due("stop(0) twice", x.stop(0), false);
        due("stop(3)", x.stop(3), false);
        due("stop(-1)", x.stop(-1), false);
        due("status(3)", x.status(3), 3);
        due("has(5)", x.has(5), 2);
    }

    private static void start() {
        promise = 33;
        due("start(0) of none", new WaveBridges().start(0), false);
        WaveBridges x = of(TRIANGLE, 20);
        due("start of one that is ON", x.start(0), false);
        x.stop(0);
        x.cut(1);
        due("start(0)", x.start(0), true);
        portIs(x, 0, 0, 2, 0, 2, 0, 0, 0, 0, 0, 0, 1);
        portIs(x, 0, 1, 0, 0, 0, 0, 0, 0, 0, 0, 0, 0);
        portIs(x, 1, 0, 2, 0, 2, 0, 0, 0, 0, 0, 0, 1);
        bridgeIs(x, 0, 16, 2, 0, 1, 16, 0, NONE, 0, 0);
        due("start(3)", x.start(3), false);
        due("start(-1)", x.start(-1), false);
        due("status(3)", x.status(3), 3);
        WaveBridges o = of(OLD_PAIR, 11);
        o.stop(1);
        o.start(1);
        due("SHORT of one that goes ON", o.bridge(1, 8), 0);
    }

    private static void prio() {
        promise = 34;
        due("prio(0, 1) of none", new WaveBridges().prio(0, 1), false);
        WaveBridges x = of(PAIR, 20);
        due("prio(0, 1): it has that", x.prio(0, 1), false);
        due("prio(0, 16)", x.prio(0, 16), false);
        due("prio(0, -1)", x.prio(0, -1), false);
        due("prio(2, 1)", x.prio(2, 1), false);
        due("prio(-1, 1)", x.prio(-1, 1), false);
        due("status(3)", x.status(3), 5);
        due("prio(1, 15)", x.prio(1, 15), true);
        // Its vector got worse: it is not AGREED any more, but stays OPEN.
        bridgeIs(x, 1, 241, 1, 0, 1, 241, 0, NONE, 0, 0);
        portIs(x, 1, 0, 2, 2, 0, 0, 0, 0, 0, 0, 0, 1);
        x.run(1);
        messageIs(x, 0, 21, 0, 0, 0, 241, 0, 241, 0, 0, 0);
        x.run(40);
        due("a is the root then", x.bridge(1, 4), 16);
        due("prio(0, 0)", x.prio(0, 0), true);
        // Better: it stays AGREED.
        due("AGREED", x.port(0, 0, 4), 1);
        due("ID", x.bridge(0, 0), 0);
        x.stop(0);
        due("prio of one that is off", x.prio(0, 7), true);
        bridgeIs(x, 0, 112, 1, 0, 0, NONE, NONE, NONE, NONE, NONE);
    }

    private static void turn() {
        promise = 35;
        due("turn(0) of none", new WaveBridges().turn(0), NONE);
        WaveBridges x = of(PAIR, 20);
        x.send(0, 1);
        due("turn(0)", x.turn(0), 1);
        due("its addresses are gone", x.address(0, 0, 0), NONE);
        portIs(x, 0, 0, 2, 0, 2, 0, 0, 0, 0, 0, 0, 1);
        portIs(x, 1, 0, 2, 0, 2, 0, 0, 0, 0, 0, 0, 1);
        due("turn(0)", x.turn(0), 0);
        x.stop(0);
        due("turn of one that is off", x.turn(0), 1);
        due("it stays off", x.bridge(0, 3), 0);
        due("old", x.bridge(0, 2), 1);
        due("turn(2)", x.turn(2), NONE);
        due("turn(-1)", x.turn(-1), NONE);
        due("status(3)", x.status(3), 2);
        // While it is off, the others choose: the spare port opens, and the root port does anew.
        WaveBridges t = of(TRIANGLE, 40);
        int before = t.has(9);
        t.turn(0);
        keptIs(t, before, 40, 2, 1, 2);
    }

    private static void move() {
        promise = 36;
        due("move(0, 0) of none", new WaveBridges().move(0, 0), false);
        WaveBridges x = of(PAIR, 3);
        x.send(0, 1);
        due("move(0, 0): it is there", x.move(0, 0), false);
        due("move(0, 2)", x.move(0, 2), false);
        due("move(0, -1)", x.move(0, -1), false);
        due("move(2, 0)", x.move(2, 0), false);
        due("move(-1, 0)", x.move(-1, 0), false);
        due("status(3)", x.status(3), 5);
        due("move(0, 1)", x.move(0, 1), true);
        due("addresses stay", x.address(0, 0, 0), 6);
        due("addresses stay", x.address(1, 0, 0), 0);
        // g to h: b leads it by the link to a, where it is not any more.
        due("send(1, 0)", x.send(1, 0), 0);
        due("frame(1)", x.frame(1), 1);
        // h tells anew where it is.
        due("send(0, 1)", x.send(0, 1), 1);
        due("frame(1)", x.frame(1), 0);
        due("send(1, 0)", x.send(1, 0), 1);
        x.stop(0);
        due("move to one that is off", x.move(0, 0), true);
    }

    private static void send() {
        promise = 37;
        due("send(0, 1) of none", new WaveBridges().send(0, 1), NONE);
        WaveBridges x = of(TRIANGLE);
        due("send(0, 0)", x.send(0, 0), NONE);
        due("send(0, 3)", x.send(0, 3), NONE);
        due("send(3, 0)", x.send(3, 0), NONE);
        due("send(-1, 0)", x.send(-1, 0), NONE);
        due("send(0, -1)", x.send(0, -1), NONE);
        due("status(4)", x.status(4), 5);
        due("send(0, 1) while all is SHUT", x.send(0, 1), 0);
        x.run(40);
        // h to g: flooded by both ports of a; b has g; c's port to b is SHUT, b's to c OPEN: it passes, and is lost.
        due("send(0, 1)", x.send(0, 1), 1);
        due("frame(1)", x.frame(1), 3);
        due("address(2, 0, 0): not by the SHUT one", x.address(2, 0, 0), 0);
        // g to f: b does not know f: to a, and lost to c; a to c.
        due("send(1, 2)", x.send(1, 2), 1);
        due("frame(1)", x.frame(1), 3);
        // f to g: c has it at port 0, a at its port 0.
        due("send(2, 1)", x.send(2, 1), 1);
        due("frame(1)", x.frame(1), 2);
        x.stop(0);
        due("send of one whose bridge is off", x.send(0, 1), 0);
        due("frame(0)", x.frame(0), 0);
        due("frame(1)", x.frame(1), 0);
        // LEARNING learns, but does not pass: a and b, old, learn from STEP 8 on.
        WaveBridges o = of("net age 6 delay 2;bridge a prio 1;bridge b prio 2 old;link a edge to b cost 1 takes 3;host h at a;host g at b;", 3);
        due("send(0, 1) to a SHUT port", o.send(0, 1), 0);
        due("frame(1)", o.frame(1), 1);
        due("address(1, 0, 0)", o.address(1, 0, 0), NONE);
        WaveBridges p = of("net age 6 delay 1;bridge a prio 1;bridge b prio 2 old;link a edge to b cost 1 takes 3;host h at a;host g at b;", 3);
        due("send(0, 1) to a LEARNING port", p.send(0, 1), 0);
        due("frame(1)", p.frame(1), 1);
        due("address(1, 0, 0)", p.address(1, 0, 0), 0);
        // Two of one bridge.
        WaveBridges q = of("net age 6 delay 2;bridge a prio 1;host h at a;host g at a;");
        due("send(0, 1)", q.send(0, 1), 1);
        due("send(1, 0) by the address at the host place", q.send(1, 0), 1);
        due("frame(1)", q.frame(1), 0);
    }

    private static void frame() {
        promise = 38;
        due("frame(0) of none", new WaveBridges().frame(0), NONE);
        WaveBridges x = of(PAIR, 3);
        due("frame(0) without one", x.frame(0), NONE);
        x.send(0, 1);
        row("frame(", x::frame, 1, 1, 0, NONE);
        due("frame(-1)", x.frame(-1), NONE);
        x.undo();
        row("frame(", x::frame, 1, 1, 0, NONE);
        x.send(0, 0);
        row("frame(", x::frame, 1, 1, 0, NONE);
        // Around a ring of three, both ways, for ever: 64 links are passed. To the third bridge's host it comes again
        // and again until then.
        WaveBridges e = of(EDGES);
        due("send(0, 1)", e.send(0, 1) > 1, true);
        due("frame(1)", e.frame(1), 64);
        due("frame(2)", e.frame(2), 1);
        // 64 passings and no more are no storm: a chain never is one.
        due("frame(2)", x.frame(2), 0);
        // Two waves go around; of 64 passings each bridge takes part in a third: the first wave is b, c, a, .., the
        // second c, b, a, ..: passings 1 and 2 reach b and c, 3 and 4 reach c and b, 5 and 6 reach a.
        // b is reached by passings 1, 4, 7, 10, .. 64: 22 times; the bridge reached by the 64th has no turn any more.
        due("frame(0)", e.frame(0), 21);
    }

    private static void chance() {
        promise = 39;
        due("chance(1) of none", new WaveBridges().chance(1), NONE);
        due("chance(1) of no links", of("net age 6 delay 2;bridge a prio 1;").chance(1), NONE);
        WaveBridges x = of(TRIANGLE);
        for (int n : new int[] {0, -1, 21, Integer.MIN_VALUE, Integer.MAX_VALUE}) due("chance(" + n + ")", x.chance(n), NONE);
        due("status(2)", x.status(2), 5);
        due("the seed stays", x.has(12), 1);
        // x = 1103527590: / 64 = 17242618, mod 3 = 1: link 1 is cut. x = 377401575: / 64 = 5896899, mod 16 = 3: 4 STEPS.
        due("chance(1)", x.chance(1), 2);
        due("link 1", x.link(1, 6), 0);
        due("has(3)", x.has(3), 4);
        due("has(12)", x.has(12), 377401575);
        due("one ACT", x.has(11), 1);
        x.seed(1);
        due("chance(1)", x.chance(1), 3);
        due("link 1", x.link(1, 6), 1);
        due("has(3)", x.has(3), 8);
        x.undo();
        due("the seed is not undone", x.has(12), 377401575);
        due("link 1", x.link(1, 6), 0);
        for (int k = 0; k < 49; k++) x.run(200);
        x.run(179);
        due("has(3)", x.has(3), 9983);
        due("chance(2)", x.chance(2), NONE);
        due("chance(1)", x.chance(1) != NONE, true);
        WaveBridges y = of(TRIANGLE);
        for (int k = 0; k < 49; k++) y.run(200);
        y.run(184);
        due("chance(1) at 9984", y.chance(1), NONE);
        y.undo();
        due("chance(10) at 9800", y.chance(10) != NONE, true);
    }

    private static void undo() {
        promise = 40;
        WaveBridges none = new WaveBridges();
        due("undo() of none", none.undo(), false);
        due("status(4)", none.status(4), 1);
        WaveBridges x = of(PAIR);
        x.run(2);
        x.run(1);
        x.send(0, 1);
        x.cut(0);
        due("undo() of cut", x.undo(), true);
        portIs(x, 1, 0, 2, 2, 0, 2, 1, 0, 0, 0, 0, 0);
        due("messages are there again", x.has(4), 2);
        due("address", x.address(1, 0, 0), 0);
        due("undo() of send", x.undo(), true);
        due("address", x.address(1, 0, 0), NONE);
        due("undo() of run", x.undo(), true);
        due("has(3)", x.has(3), 2);
        due("has(9)", x.has(9), 1);
        messageIs(x, 1, 2, 1, 0, 1, 1, 0, 1, 0, 0, 6);
        due("undo() of run", x.undo(), true);
        due("has(3)", x.has(3), 0);
        due("undo() of nothing", x.undo(), false);
        due("status(4)", x.status(4), 1);
        due("run(3) as before", x.run(3), 3);
        due("rests()", x.rests(), true);
        // Twenty, no more.
        WaveBridges y = of(PAIR);
        for (int k = 0; k < 25; k++) y.run(1);
        due("has(11)", y.has(11), 20);
        for (int k = 0; k < 20; k++) due("undo " + k, y.undo(), true);
        due("undo 20", y.undo(), false);
        due("has(3)", y.has(3), 5);
        // Of each ACT.
        WaveBridges z = of(TRIANGLE, 30);
        String before = told(z);
        z.cut(1);
        String cut = told(z);
        z.mend(1);
        z.stop(0);
        z.turn(1);
        z.start(0);
        z.prio(2, 0);
        z.move(0, 2);
        z.chance(3);
        for (int k = 0; k < 7; k++) z.undo();
        due("all but the first", told(z).equals(cut), true);
        z.undo();
        due("all", told(z).equals(before), true);
    }

    /** All that can be told of what an act changes. */
    private static String told(WaveBridges x) {
        StringBuilder t = new StringBuilder();
        for (int k = 0; k < 12; k++) t.append(x.has(k)).append(' ');
        for (int b = 0; b < 8; b++) {
            for (int k = 0; k < 9; k++) t.append(x.bridge(b, k)).append(' ');
            for (int p = 0; p < 6; p++) {
                for (int k = 0; k < 10; k++) t.append(x.port(b, p, k)).append(' ').append(x.held(b, p, k)).append(' ');
            }
            for (int h = 0; h < 8; h++) t.append(x.address(b, h, 0)).append(' ').append(x.address(b, h, 1)).append(' ');
        }
        for (int n = 0; n < 84; n++) for (int k = 0; k < 10; k++) t.append(x.message(n, k)).append(' ');
        for (int n = 0; n < 40; n++) for (int k = 0; k < 4; k++) t.append(x.kept(n, k)).append(' ');
        x.image();
        for (int k = 0; k < 48; k++) t.append(x.octet(k)).append(' ');
        return t.toString();
    }

    private static void seed() {
        promise = 41;
        WaveBridges x = new WaveBridges();
        due("seed(0)", x.seed(0), true);
        due("has(12)", x.has(12), 0);
        due("seed(-1)", x.seed(-1), false);
        due("seed(MIN)", x.seed(Integer.MIN_VALUE), false);
        due("status(5)", x.status(5), 2);
        due("seed(MAX)", x.seed(Integer.MAX_VALUE), true);
        due("has(12)", x.has(12), Integer.MAX_VALUE);
        // (1103515245 (2^31 - 1) + 12345) mod 2^31 = 2^31 - 1103515245 + 12345 = 1043980748; / 64 = 16312199.
        put(x, TRIANGLE);
        x.net();
        due("has(12)", x.has(12), Integer.MAX_VALUE);
        x.chance(1);
        due("link 16312199 mod 3 = 2", x.link(2, 6), 0);
    }

    private static void image() {
        promise = 42;
        WaveBridges none = new WaveBridges();
        due("image() of none", none.image(), 1);
        due("octet(0)", none.octet(0), 151);
        WaveBridges x = of("net age 6 delay 2;bridge a prio 3;bridge b prio 15 old;link a to b cost 1 takes 1;host h at b;");
        due("image()", x.image(), 9);
        row("octet(", x::octet, 1, 3, 0, 1, 15, 1, 1, 1, check(1, 3, 0, 1, 15, 1, 1, 1), NONE);
        x.stop(0);
        x.cut(0);
        x.prio(1, 2);
        x.turn(1);
        x.move(0, 0);
        due("image()", x.image(), 9);
        row("octet(", x::octet, 0, 3, 0, 1, 2, 0, 0, 0, check(0, 3, 0, 1, 2, 0, 0, 0), NONE);
        due("no ACT", x.has(11), 5);
    }

    private static int check(int... bytes) {
        int c = 151;
        for (int b : bytes) c = (3 * c + b) % 251;
        return c;
    }

    private static void octet() {
        promise = 43;
        WaveBridges x = new WaveBridges();
        due("octet(0) ahead of any", x.octet(0), NONE);
        put(x, PAIR);
        x.net();
        due("octet(0) ahead of any", x.octet(0), NONE);
        due("image()", x.image(), 10);
        x.cut(0);
        due("octet(6) of the latest image()", x.octet(6), 1);
        x.image();
        due("octet(6)", x.octet(6), 0);
        due("octet(10)", x.octet(10), NONE);
        due("octet(-1)", x.octet(-1), NONE);
        put(x, "net age 2 delay 1;");
        x.net();
        due("octet(6) stays", x.octet(6), 0);
        x.image();
        due("octet(1)", x.octet(1), NONE);
        due("octet(0)", x.octet(0), 151);
    }

    private static void on() {
        promise = 44;
        WaveBridges none = new WaveBridges();
        put(none, 151);
        due("on() of none", none.on(), false);
        due("the tape is gone", none.end(1), false);
        due("status(5)", none.status(5), 1);
        WaveBridges x = of(PAIR, 20);
        x.send(0, 1);
        put(x, 1, 0, 1);
        x.see(4);
        x.seed(5);
        int[] image = {1, 9, 1, 0, 4, 0, 1, 1, 0, 0};
        image[9] = check(1, 9, 1, 0, 4, 0, 1, 1, 0);
        put(x, image);
        due("on()", x.on(), true);
        due("the tape is gone", x.end(1), false);
        row("has(", x::has, 2, 1, 2, 0, 0, 1, 1, 0, 0, 0, 1, 0, 5);
        bridgeIs(x, 0, 144, 1, 1, 1, 144, 0, NONE, 0, 0);
        bridgeIs(x, 1, 65, 1, 0, 0, NONE);
        portIs(x, 0, 0, 0, 0, 0, 0, 0, 0, 0, 0, 0, 0);
        due("address", x.address(0, 0, 0), NONE);
        due("frame(0) stays", x.frame(0), 1);
        x.image();
        row("octet(", x::octet, image);
        for (int k = 0; k < 10; k++) {
            for (int value : new int[] {2, 16, 255}) {
                int[] bad = image.clone();
                bad[k] = value;
                if (k < 9) bad[9] = check(java.util.Arrays.copyOf(bad, 9));
                boolean fine = k < 6 && k % 3 == 1 && value < 16 || k == 9 && value == image[9];
                put(x, bad);
                due("on() with " + value + " at " + k, x.on(), fine);
                put(x, image);
                x.on();
            }
        }
        int refused = x.status(5);
        put(x, java.util.Arrays.copyOf(image, 9));
        due("on() of too few", x.on(), false);
        put(x, java.util.Arrays.copyOf(image, 11));
        due("on() of too many", x.on(), false);
        due("on() of no tape", x.on(), false);
        due("status(5)", x.status(5), refused + 3);
        // Edges open as all begin, and that is not kept; nothing stays of what went on.
        WaveBridges e = of(EDGES, 30);
        e.image();
        int[] same = new int[e.image()];
        for (int k = 0; k < same.length; k++) same[k] = e.octet(k);
        put(e, same);
        due("on()", e.on(), true);
        due("as at first", told(e).equals(told(of(EDGES))), true);
        due("undo()", e.undo(), false);
    }

    private static void status() {
        promise = 45;
        WaveBridges x = new WaveBridges();
        x.end(1);
        x.net();
        x.net();
        for (int k = 0; k < 3; k++) x.run(1);
        x.chance(1);
        x.cut(0);
        x.mend(0);
        x.stop(0);
        x.start(0);
        x.prio(0, 0);
        x.turn(0);
        x.move(0, 0);
        x.send(0, 1);
        x.undo();
        x.seed(-1);
        x.see(0);
        x.on();
        row("status(", x::status, 1, 2, 4, 7, 2, 3, NONE);
        due("status(-1)", x.status(-1), NONE);
        put(x, PAIR);
        x.net();
        row("status(", x::status, 1, 2, 4, 7, 2, 3, NONE);
    }

    /** Whatever is asked, nothing is thrown, and what there is not has no answer. */
    private static void outside() {
        promise = 0;
        WaveBridges[] all = {new WaveBridges(), of("net age 6 delay 2;"), of(TRIANGLE, 5)};
        for (WaveBridges x : all) {
            for (int a : OUTSIDE) {
                due("has(" + a + ")", x.has(a), NONE);
                due("octet(" + a + ")", x.octet(a), NONE);
                due("status(" + a + ")", x.status(a), NONE);
                due("ring(" + a + ")", x.ring(a), NONE);
                due("worst(" + a + ")", x.worst(a), NONE);
                due("tells(" + a + ")", x.tells(a), NONE);
                due("centre(" + a + ")", x.centre(a), NONE);
                due("heal(" + a + ")", x.heal(a), NONE);
                due("cut(" + a + ")", x.cut(a), false);
                due("mend(" + a + ")", x.mend(a), false);
                due("stop(" + a + ")", x.stop(a), false);
                due("start(" + a + ")", x.start(a), false);
                due("turn(" + a + ")", x.turn(a), NONE);
                for (int b : OUTSIDE) {
                    due("joined", x.joined(a, b), NONE);
                    due("leads", x.leads(a, b), NONE);
                    due("due", x.due(a, b), NONE);
                    due("role", x.role(a, b), NONE);
                    due("link", x.link(a, b), NONE);
                    due("bridge", x.bridge(a, b), NONE);
                    due("message", x.message(a, b), NONE);
                    due("kept", x.kept(a, b), NONE);
                    due("prio", x.prio(a, b), false);
                    due("move", x.move(a, b), false);
                    due("send", x.send(a, b), NONE);
                    for (int c : OUTSIDE) {
                        due("letter", x.letter(a, b, c), NONE);
                        due("port", x.port(a, b, c), NONE);
                        due("held", x.held(a, b, c), NONE);
                        due("address", x.address(a, b, c), NONE);
                    }
                }
            }
        }
    }

    public static void main(String[] args) {
        newObject();
        feed();
        end();
        net();
        fault();
        has();
        letter();
        link();
        bridge();
        port();
        held();
        address();
        message();
        kept();
        dues();
        role();
        rests();
        when();
        ring();
        rings();
        joined();
        leads();
        heal();
        worst();
        see();
        suspect();
        tells();
        centre();
        run();
        cut();
        mend();
        stop();
        start();
        prio();
        turn();
        move();
        send();
        frame();
        chance();
        undo();
        seed();
        image();
        octet();
        on();
        status();
        outside();
        System.out.println(wrong == 0 ? "all answers are as due" : wrong + " answers are not as due");
        if (wrong != 0) System.exit(1);
    }
}

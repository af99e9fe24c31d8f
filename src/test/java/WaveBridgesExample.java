/**
 * The example of README.md, call by call, with the answers that it tells there; they were found by hand. Two bridges and
 * one link: b proposes in step 0, a takes it and agrees in step 1, b opens in step 2.
 */
public final class WaveBridgesExample {
    private static int wrong = 0;

    private static void due(String call, long got, long want) {
        if (got != want) {
            wrong++;
            System.out.println(call + " answered " + got + ", due is " + want);
        }
    }
    private static void due(String call, boolean got, boolean want) { due(call, got ? 1 : 0, want ? 1 : 0); }

    static void put(WaveBridges x, int[] bytes) {
        for (int at = 0; at < bytes.length; at += 20) {
            int[] v = new int[5];
            for (int k = 0; k < 20; k++) {
                v[k / 4] = v[k / 4] << 8 | (at + k < bytes.length ? bytes[at + k] : 0);
            }
            x.feed(v[0], v[1], v[2], v[3], v[4]);
        }
        x.end(bytes.length);
    }

    /** Promises 4, 5, 18, 29, 17, 10, 22, 37, 38: a net, steps, what opens, a frame. */
    private static void steps(WaveBridges x) {
        put(x, "net age 6 delay 2; bridge a prio 1; bridge b prio 0; link a to b cost 5 takes 1; host h at a; host g at b;".chars().toArray());
        due("net()", x.net(), 6);
        due("fault(0)", x.fault(0), 0);
        due("when()", x.when(), 3);
        due("run(2)", x.run(2), 2);
        due("rests()", x.rests(), false);
        due("port(0, 0, 0)", x.port(0, 0, 0), 1);
        due("port(1, 0, 1)", x.port(1, 0, 1), 0);
        due("run(1)", x.run(1), 3);
        due("rests()", x.rests(), true);
        due("port(1, 0, 1)", x.port(1, 0, 1), 2);
        due("bridge(0, 5)", x.bridge(0, 5), 5);
        due("send(0, 1)", x.send(0, 1), 1);
        due("frame(1)", x.frame(1), 1);
        due("leads(1, 0)", x.leads(1, 0), 1);
    }

    /** Promises 30, 45, 6, 40, 26, 25, 42, 43, 44: acts, one undone, what is seen, an image. */
    private static void acts(WaveBridges x) {
        due("cut(1)", x.cut(1), false);
        due("status(3)", x.status(3), 1);
        due("cut(0)", x.cut(0), true);
        due("joined(0, 1)", x.joined(0, 1), WaveBridges.NONE);
        due("has(11)", x.has(11), 4);
        due("undo()", x.undo(), true);
        due("joined(0, 1)", x.joined(0, 1), 1);
        put(x, new int[] {0, 0, 0});
        due("see(5)", x.see(5), 1);
        due("suspect(NONE)", x.suspect(WaveBridges.NONE), 1);
        due("suspect(0)", x.suspect(0), 0);
        int[] image = new int[x.image()];
        for (int k = 0; k < image.length; k++) image[k] = x.octet(k);
        due("image()", image.length, 10);
        put(x, image);
        due("on()", x.on(), true);
        due("has(3)", x.has(3), 0);
    }

    /** Promises 4, 5, 45: a net with a fault leaves the one that is there. */
    private static void faults(WaveBridges x) {
        put(x, "net age 6 delay 0;".chars().toArray());
        due("net()", x.net(), WaveBridges.NONE);
        due("fault(0)", x.fault(0), 2);
        due("fault(1)", x.fault(1), 16);
        due("status(1)", x.status(1), 1);
        due("has(0)", x.has(0), 2);
    }

    public static void main(String[] args) {
        WaveBridges x = new WaveBridges();
        steps(x);
        acts(x);
        faults(x);
        System.out.println(wrong == 0 ? "all answers are as due" : wrong + " answers are not as due");
        System.exit(wrong == 0 ? 0 : 1);
    }
}

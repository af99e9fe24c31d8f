import java.lang.reflect.InvocationTargetException;
import java.lang.reflect.Method;
import java.lang.reflect.Modifier;
import java.util.ArrayList;
import java.util.Arrays;
import java.util.List;
import java.util.Random;
import java.util.TreeMap;

/**
 * Runs by chance on the class and on a second, slow telling of the document side by side: every answer of the
 * class must be that of the telling. The seeds are written down, so that each run is the same every time.
 */
public final class WaveBridgesModel {
    private static final int NONE = -1;
    private static int wrong = 0;
    private static long asked = 0;

    // ------------------------------------------------------------------ the second telling

    static final class Vec implements Comparable<Vec> {
        final int root, cost, id, port;
        Vec(int root, int cost, int id, int port) { this.root = root; this.cost = cost; this.id = id; this.port = port; }
        @Override public int compareTo(Vec o) {
            return Arrays.compare(new int[] {root, cost, id, port}, new int[] {o.root, o.cost, o.id, o.port});
        }
    }

    static final class LinkTold { int b1, p1, b2, p2, cost, takes; boolean e1, e2; }

    static final class NetTold {
        int age, delay, statements;
        List<String> bridges = new ArrayList<>();
        List<Integer> prio = new ArrayList<>();
        List<Boolean> old = new ArrayList<>();
        List<LinkTold> links = new ArrayList<>();
        List<String> hosts = new ArrayList<>();
        List<Integer> at = new ArrayList<>();
        int portsOf(int b) {
            int n = 0;
            for (LinkTold l : links) { if (l.b1 == b) n++; if (l.b2 == b) n++; }
            return n;
        }
    }

    static final class P implements Cloneable {
        int bridge, number, link; boolean second, toldEdge;
        int role, state, wait, change; boolean agreed, edge, speaksOld, owesAgreement, owesAnswer, marked;
        Vec holds; int age, life;
        P copy() { try { return (P) clone(); } catch (CloneNotSupportedException e) { throw new IllegalStateException(e); } }
        void reset(boolean up) {
            role = 0; state = 0; wait = 0; change = 0; agreed = false; edge = up && toldEdge; speaksOld = false;
            owesAgreement = false; owesAnswer = false; marked = false; holds = null; age = 0; life = 0;
        }
    }

    static final class B {
        int number, prio; boolean on, old;
        int root, cost, age, rootPort, shortTime; Vec last;
        List<P> ports = new ArrayList<>();
        TreeMap<Integer, int[]> addresses = new TreeMap<>();
        int id() { return 16 * prio + number; }
        B copy() {
            B c = new B();
            c.number = number; c.prio = prio; c.on = on; c.old = old; c.root = root; c.cost = cost; c.age = age;
            c.rootPort = rootPort; c.shortTime = shortTime; c.last = last;
            for (P p : ports) c.ports.add(p.copy());
            addresses.forEach((h, a) -> c.addresses.put(h, a.clone()));
            return c;
        }
    }

    static final class Msg {
        int arrives, bridge, port, link, serial, age; boolean reply, proposal, agreement, change, answer, old; Vec vec;
        int bits() { return (proposal ? 1 : 0) + (agreement ? 2 : 0) + (change ? 4 : 0) + (answer ? 8 : 0) + (old ? 16 : 0); }
    }

    static final class World {
        NetTold told; int step, flushed, serial; boolean quiet;
        List<B> bs = new ArrayList<>();
        List<Boolean> whole = new ArrayList<>();
        List<Integer> home = new ArrayList<>();
        List<Msg> mail = new ArrayList<>();
        List<int[]> kept = new ArrayList<>();

        World copy() {
            World w = new World();
            w.told = told; w.step = step; w.flushed = flushed; w.serial = serial; w.quiet = quiet;
            for (B b : bs) w.bs.add(b.copy());
            w.whole.addAll(whole); w.home.addAll(home); w.mail.addAll(mail); w.kept.addAll(kept);
            return w;
        }

        static World of(NetTold told) {
            World w = new World();
            w.told = told;
            for (int i = 0; i < told.bridges.size(); i++) {
                B b = new B();
                b.number = i; b.prio = told.prio.get(i); b.old = told.old.get(i); b.on = true;
                w.bs.add(b);
            }
            for (int l = 0; l < told.links.size(); l++) {
                LinkTold t = told.links.get(l);
                w.whole.add(true);
                for (int side = 0; side < 2; side++) {
                    P p = new P();
                    p.bridge = side == 0 ? t.b1 : t.b2; p.link = l; p.second = side == 1; p.toldEdge = side == 0 ? t.e1 : t.e2;
                    p.number = w.bs.get(p.bridge).ports.size();
                    w.bs.get(p.bridge).ports.add(p);
                }
            }
            w.home.addAll(told.at);
            w.begin();
            return w;
        }

        P end(int link, boolean second) {
            LinkTold t = told.links.get(link);
            return second ? bs.get(t.b2).ports.get(t.p2) : bs.get(t.b1).ports.get(t.p1);
        }
        P peer(P p) { return end(p.link, !p.second); }
        boolean up(P p) { return whole.get(p.link) && bs.get(p.bridge).on && bs.get(peer(p).bridge).on; }
        boolean linkOpen(int l) { return end(l, false).state == 2 && end(l, true).state == 2; }
        boolean linkUp(int l) { return up(end(l, false)); }
        Vec ours(P p) { B b = bs.get(p.bridge); return new Vec(b.root, b.cost, b.id(), p.number); }

        void begin() {
            step = 0; flushed = 0; mail.clear(); kept.clear(); quiet = true;
            for (B b : bs) { b.addresses.clear(); b.shortTime = 0; for (P p : b.ports) p.reset(up(p)); }
            for (B b : bs) if (b.on) choose(b);
            quiet = false;
        }

        void choose(B b) {
            P best = null;
            for (P p : b.ports) {
                if (!up(p) || p.holds == null || p.holds.id == b.id()) continue;
                if (best == null || through(p).compareTo(through(best)) < 0) best = p;
            }
            Vec last = b.last;
            if (best != null && best.holds.root < b.id()) {
                b.rootPort = best.number; b.root = best.holds.root; b.cost = through(best).cost; b.age = best.age + 1;
            } else {
                b.rootPort = NONE; b.root = b.id(); b.cost = 0; b.age = 0;
            }
            b.last = new Vec(b.root, b.cost, b.id(), 0);
            int[] was = new int[6];
            for (P p : b.ports) {
                was[p.number] = p.role;
                if (!up(p)) p.role = 0;
                else if (p.number == b.rootPort) p.role = 1;
                else if (p.holds != null && p.holds.compareTo(ours(p)) < 0) p.role = p.holds.id == b.id() ? 4 : 3;
                else p.role = 2;
            }
            for (P p : b.ports) {
                if (!up(p)) continue;
                int before = was[p.number];
                if (p.role == 1) {
                    p.agreed = false;
                    if (!b.old) opens(p);
                    else if (before != 1 && before != 2) p.wait = told.delay;
                } else if (p.role != 2) {
                    p.agreed = false; shuts(p); p.wait = 0; p.change = 0; p.owesAnswer = false;
                } else {
                    p.holds = null; p.owesAgreement = false;
                    if (before != 2) {
                        p.agreed = false; p.marked = true;
                        if (p.edge) opens(p);
                        else { shuts(p); p.wait = told.delay; }
                    } else if (last.compareTo(b.last) != 0) {
                        p.marked = true;
                        if (last.compareTo(b.last) < 0) p.agreed = false;
                    }
                }
            }
        }
        Vec through(P p) {
            return new Vec(p.holds.root, p.holds.cost + told.links.get(p.link).cost, p.holds.id, p.holds.port);
        }
        void becomes(P p, int state) {
            if (p.state == state) return;
            p.state = state;
            if (!quiet) kept.add(new int[] {step, p.bridge, p.number, state});
            if (kept.size() > 40) kept.remove(0);
        }
        void shuts(P p) {
            if (p.state != 0) bs.get(p.bridge).addresses.values().removeIf(a -> a[0] == p.number);
            becomes(p, 0);
        }
        void opens(P p) {
            if (p.state == 2) return;
            becomes(p, 2);
            p.wait = 0;
            if (!p.edge) { p.change = 2; p.marked = true; spreads(p); }
        }
        void spreads(P from) {
            B b = bs.get(from.bridge);
            for (P p : b.ports) {
                if (p != from && (p.role == 1 || p.role == 2) && !p.edge && p.change == 0) { p.change = 2; p.marked = true; }
            }
            if (b.old) { b.shortTime = told.age + told.delay; return; }
            int had = b.addresses.size();
            b.addresses.values().removeIf(a -> a[0] != 6 && a[0] != from.number && !b.ports.get(a[0]).edge);
            flushed = Math.min(9999, flushed + had - b.addresses.size());
        }

        void oneStep() {
            if (step % 8 == 0) for (B b : bs) if (b.on) tick(b);
            List<Msg> arriving = new ArrayList<>();
            for (Msg m : sorted()) if (m.arrives == step) arriving.add(m);
            mail.removeAll(arriving);
            for (Msg m : arriving) arrives(m);
            for (B b : bs) for (P p : b.ports) if (p.marked && up(p)) { sends(b, p); p.marked = false; }
            step++;
        }
        List<Msg> sorted() {
            List<Msg> all = new ArrayList<>(mail);
            all.sort((x, y) -> Arrays.compare(new int[] {x.arrives, x.bridge, x.port, x.serial},
                    new int[] {y.arrives, y.bridge, y.port, y.serial}));
            return all;
        }
        void sends(B b, P p) {
            Msg m = new Msg();
            m.old = b.old || p.speaksOld;
            m.change = p.change != 0;
            if (p.role == 2) {
                m.vec = ours(p); m.age = b.age; m.proposal = !m.old && p.state != 2; m.answer = p.owesAnswer;
                p.owesAnswer = false;
            } else {
                m.reply = true; m.vec = p.holds; m.agreement = p.owesAgreement && !m.old;
                p.owesAgreement = false;
                if (!m.agreement && !m.change) return;
            }
            P to = peer(p);
            m.bridge = to.bridge; m.port = to.number; m.link = p.link; m.serial = serial++;
            m.arrives = step + told.links.get(p.link).takes;
            mail.add(m);
        }
        void arrives(Msg m) {
            B b = bs.get(m.bridge);
            P p = b.ports.get(m.port);
            if (b.old && !m.old) return;
            if (p.edge) { p.edge = false; shuts(p); p.wait = told.delay; }
            if (!b.old) {
                if (p.speaksOld != m.old) p.marked = true;
                p.speaksOld = m.old;
            }
            if (m.reply) reply(m, p); else config(m, b, p);
        }
        void config(Msg m, B b, P p) {
            if (m.age + 1 > told.age) {
                boolean had = p.holds != null;
                p.holds = null;
                if (had) choose(b);
                return;
            }
            boolean taken = p.holds != null || m.vec.compareTo(ours(p)) < 0;
            if (!taken) { p.marked = true; return; }
            p.holds = m.vec; p.age = m.age; p.life = 3;
            choose(b);
            if (p.role != 2 && m.proposal) {
                if (p.role == 1) {
                    for (P q : b.ports) {
                        if (q == p || !up(q) || q.role != 2 || q.edge || q.agreed) continue;
                        shuts(q); q.wait = told.delay; q.marked = true;
                    }
                }
                p.owesAgreement = true; p.marked = true;
            }
            if (p.role == 1) {
                if (b.old) for (P q : b.ports) if (q.role == 2) q.marked = true;
                if (m.answer) p.change = 0;
                if (m.change) spreads(p);
            }
        }
        void reply(Msg m, P p) {
            if (p.role != 2) return;
            if (m.agreement && m.vec.compareTo(ours(p)) == 0) { p.agreed = true; opens(p); }
            if (m.change) {
                spreads(p);
                if (m.old) { p.owesAnswer = true; p.marked = true; }
            }
        }
        void tick(B b) {
            for (P p : b.ports) if (p.change != 0) p.change--;
            if (b.shortTime != 0) b.shortTime--;
            boolean went = false;
            for (P p : b.ports) if (p.holds != null && --p.life == 0) { p.holds = null; went = true; }
            if (went) choose(b);
            for (P p : b.ports) {
                if (p.role != 1 && p.role != 2 || p.state == 2 || p.wait == 0) continue;
                p.wait--;
                if (p.wait == 0) {
                    if (p.state == 0) { becomes(p, 1); p.wait = told.delay; } else opens(p);
                }
            }
            for (int[] a : b.addresses.values()) a[1]++;
            b.addresses.values().removeIf(a -> a[1] >= 30 || b.shortTime != 0 && a[1] > told.delay);
            for (P p : b.ports) {
                if (p.role == 2 && (!b.old || b.root == b.id())) p.marked = true;
                if (p.role == 1 && p.change != 0) p.marked = true;
            }
        }

        void down(P p) {
            p.reset(false);
            mail.removeIf(m -> m.link == p.link);
            bs.get(p.bridge).addresses.values().removeIf(a -> a[0] == p.number);
        }
        void chooseAll(boolean[] which) { for (B b : bs) if (which[b.number] && b.on) choose(b); }
        void cut(int l) { toggle(l, false); }
        void mend(int l) { toggle(l, true); }
        void toggle(int l, boolean mended) {
            whole.set(l, mended);
            boolean[] touched = new boolean[8];
            for (int side = 0; side < 2; side++) {
                P p = end(l, side == 1);
                touched[p.bridge] = true;
                if (mended && up(p)) p.reset(true);
                if (!mended) down(p);
            }
            chooseAll(touched);
        }
        void off(int n) {
            boolean[] lost = new boolean[8];
            List<P> gone = new ArrayList<>();
            for (P p : bs.get(n).ports) if (up(p)) { gone.add(p); gone.add(peer(p)); }
            bs.get(n).on = false;
            bs.get(n).addresses.clear();
            for (P p : gone) { down(p); lost[p.bridge] = true; }
            chooseAll(lost);
        }
        void goesOn(int n) {
            boolean[] got = new boolean[8];
            got[n] = true;
            bs.get(n).on = true;
            bs.get(n).shortTime = 0;
            for (P p : bs.get(n).ports) {
                if (!up(p)) continue;
                p.reset(true); peer(p).reset(true); got[peer(p).bridge] = true;
            }
            chooseAll(got);
        }

        // frames: how often, links, storm
        int[] frame(int from, int to) {
            int[] got = new int[3];
            B start = bs.get(home.get(from));
            if (!start.on) return got;
            start.addresses.put(from, new int[] {6, 0});
            List<int[]> at = new ArrayList<>();
            at.add(new int[] {start.number, NONE});
            for (int k = 0; k < at.size(); k++) {
                B b = bs.get(at.get(k)[0]);
                int by = at.get(k)[1];
                int[] known = b.addresses.get(to);
                List<Integer> out = new ArrayList<>();
                if (known == null) {
                    for (P p : b.ports) if (p.number != by) out.add(p.number);
                    out.add(6);
                } else if (known[0] != by) out.add(known[0]);
                for (int o : out) {
                    if (o == 6) { if (home.get(to) == b.number) got[0]++; continue; }
                    P p = b.ports.get(o);
                    if (p.state != 2) continue;
                    if (got[1] == 64) { got[2] = 1; return got; }
                    got[1]++;
                    P q = peer(p);
                    if (q.state != 0) bs.get(q.bridge).addresses.put(from, new int[] {q.number, 0});
                    if (q.state == 2) at.add(new int[] {q.bridge, q.number});
                }
            }
            return got;
        }

        // what is due, found by trying longer and longer ways
        int[][] ways() {
            int n = bs.size();
            int[][] way = new int[n][n];
            for (int[] row : way) Arrays.fill(row, NONE);
            for (int i = 0; i < n; i++) {
                if (!bs.get(i).on) continue;
                way[i][i] = 0;
                for (boolean more = true; more;) {
                    more = false;
                    for (int l = 0; l < whole.size(); l++) {
                        if (!linkUp(l)) continue;
                        LinkTold t = told.links.get(l);
                        for (int side = 0; side < 2; side++) {
                            int x = side == 0 ? t.b1 : t.b2, y = side == 0 ? t.b2 : t.b1;
                            if (way[i][x] != NONE && (way[i][y] == NONE || way[i][y] > way[i][x] + t.cost)) {
                                way[i][y] = way[i][x] + t.cost; more = true;
                            }
                        }
                    }
                }
            }
            return way;
        }
        int[] due(int b) {
            int[][] way = ways();
            int root = b;
            for (B c : bs) if (way[b][c.number] != NONE && c.id() < bs.get(root).id()) root = c.number;
            int rootPort = NONE;
            int[] best = null;
            for (P p : bs.get(b).ports) {
                if (root == b || !up(p) || peer(p).bridge == b) continue;
                P q = peer(p);
                int[] row = {way[q.bridge][root] + told.links.get(p.link).cost, bs.get(q.bridge).id(), q.number, p.number};
                if (best == null || Arrays.compare(row, best) < 0) { best = row; rootPort = p.number; }
            }
            return new int[] {bs.get(root).id(), way[b][root], rootPort};
        }
        int dueRole(P p) {
            if (!up(p)) return 0;
            int[] mine = due(p.bridge);
            if (mine[2] == p.number) return 1;
            P q = peer(p);
            int[] theirs = due(q.bridge);
            Vec a = new Vec(theirs[0], theirs[1], bs.get(q.bridge).id(), q.number);
            Vec c = new Vec(mine[0], mine[1], bs.get(p.bridge).id(), p.number);
            return a.compareTo(c) >= 0 ? 2 : q.bridge == p.bridge ? 4 : 3;
        }
        boolean rests() {
            for (B b : bs) {
                if (b.on && !Arrays.equals(due(b.number), new int[] {b.root, b.cost, b.rootPort})) return false;
                for (P p : b.ports) {
                    if (p.role != dueRole(p) || p.state != (p.role == 1 || p.role == 2 ? 2 : 0)) return false;
                }
            }
            return true;
        }
        int when() {
            World w = copy();
            for (int n = 0; n <= 400; n++) { if (w.rests()) return n; w.oneStep(); }
            return NONE;
        }

        // open links, those of the mask left out
        int parts(int shutMask) {
            boolean[] seen = new boolean[bs.size()];
            int parts = 0;
            for (int i = 0; i < bs.size(); i++) {
                if (seen[i]) continue;
                parts++;
                reach(i, seen, shutMask);
            }
            return parts;
        }
        void reach(int b, boolean[] seen, int shutMask) {
            seen[b] = true;
            for (P p : bs.get(b).ports) {
                if ((shutMask >> p.link & 1) == 0 && linkOpen(p.link) && !seen[peer(p).bridge]) reach(peer(p).bridge, seen, shutMask);
            }
        }
        int ring() {
            int all = parts(0), mask = 0, n = 0;
            for (int l = 0; l < whole.size(); l++) {
                if (linkOpen(l) && parts(mask | 1 << l) == all) { mask |= 1 << l; n++; }
            }
            return n;
        }
        int ringFirst() {
            for (B b : bs) if (comesBack(b.number, b.number, 0, 0)) return b.number;
            return NONE;
        }
        boolean comesBack(int start, int b, int links, int depth) {
            if (depth > 0 && b == start) return true;
            if (depth > 8) return false;
            for (P p : bs.get(b).ports) {
                if (linkOpen(p.link) && (links >> p.link & 1) == 0
                        && comesBack(start, peer(p).bridge, links | 1 << p.link, depth + 1)) return true;
            }
            return false;
        }
        int rings(int n) {
            World w = copy();
            int count = 0;
            for (int k = 0; k < n; k++) { w.oneStep(); if (w.ring() > 0) count++; }
            return count;
        }
        int joined(int one, int other) {
            if (!bs.get(one).on || !bs.get(other).on) return NONE;
            List<Integer> front = List.of(one);
            boolean[] seen = new boolean[8];
            seen[one] = true;
            for (int n = 0; !front.isEmpty(); n++) {
                if (front.contains(other)) return n;
                List<Integer> next = new ArrayList<>();
                for (int b : front) for (P p : bs.get(b).ports) {
                    int c = peer(p).bridge;
                    if (linkOpen(p.link) && !seen[c]) { seen[c] = true; next.add(c); }
                }
                front = next;
            }
            return NONE;
        }
        int leads(int b, int h) {
            int links = 0;
            while (links <= 8) {
                int[] a = bs.get(b).addresses.get(h);
                if (a == null) return NONE;
                if (a[0] == 6) return home.get(h) == b ? links : NONE;
                P p = bs.get(b).ports.get(a[0]);
                if (!up(p)) return NONE;
                b = peer(p).bridge;
                links++;
            }
            return NONE;
        }
        boolean healed() {
            for (B b : bs) {
                boolean[] seen = new boolean[8];
                reach(b.number, seen, 0);
                for (P p : b.ports) if (up(p) && !seen[peer(p).bridge]) return false;
            }
            return true;
        }
        int heal(int l) {
            World w = copy();
            w.cut(l);
            for (int n = 0; n <= 320; n++) { if (w.healed()) return n; w.oneStep(); }
            return NONE;
        }
        int[] worst() {
            int[] got = {NONE, NONE};
            int most = NONE;
            for (int l = 0; l < whole.size(); l++) {
                if (!whole.get(l)) continue;
                int n = heal(l);
                int rank = n == NONE ? 1000 : n;
                if (rank > most) { most = rank; got[0] = l; got[1] = n; }
            }
            return got;
        }
        List<World> thens(List<int[]> rows, int steps, List<Integer> names) {
            List<World> got = new ArrayList<>();
            for (int l = 0; l <= whole.size(); l++) {
                if (l < whole.size() && !whole.get(l)) continue;
                World w = copy();
                if (l < whole.size()) w.cut(l);
                for (int n = 0; n < steps; n++) w.oneStep();
                boolean fits = true;
                for (int[] row : rows) fits &= w.bs.get(row[0]).ports.get(row[1]).role == row[2];
                if (fits) { got.add(w); names.add(l); }
            }
            return got;
        }
        int[] telling(List<World> thens) {
            int[] got = {NONE, NONE, NONE};
            if (thens.isEmpty()) return got;
            for (B b : bs) for (P p : b.ports) {
                int[] roles = new int[5];
                for (World w : thens) roles[w.bs.get(b.number).ports.get(p.number).role]++;
                int most = Arrays.stream(roles).max().getAsInt();
                if (got[2] == NONE || most < got[2]) got = new int[] {b.number, p.number, most};
            }
            return got;
        }
        int[] centre() {
            int[] got = {NONE, NONE, NONE};
            int[][] way = ways();
            for (B b : bs) {
                if (!b.on) continue;
                int n = 0, sum = 0;
                for (int w : way[b.number]) if (w != NONE) { n++; sum += w; }
                if (got[0] == NONE || n > got[1] || n == got[1] && sum < got[2]) got = new int[] {b.number, n, sum};
            }
            return got;
        }
        int[] image() {
            List<Integer> all = new ArrayList<>();
            for (B b : bs) { all.add(b.on ? 1 : 0); all.add(b.prio); all.add(b.old ? 1 : 0); }
            for (boolean w : whole) all.add(w ? 1 : 0);
            all.addAll(home);
            int c = 151;
            for (int v : all) c = (3 * c + v) % 251;
            all.add(c);
            return all.stream().mapToInt(Integer::intValue).toArray();
        }
    }

    // ------------------------------------------------------------------ the text, read a second time

    static final class Fault extends RuntimeException {
        private static final long serialVersionUID = 1L;
        final int kind, place;
        Fault(int kind, int place) { super(null, null, false, false); this.kind = kind; this.place = place; }
    }

    static final class Text {
        static final List<String> OWN = List.of("net", "age", "delay", "bridge", "prio", "old", "link", "edge", "to", "cost",
                "takes", "host", "at");
        final String s; int i; NetTold n = new NetTold();
        Text(String s) { this.s = s; }
        int kind(int k) {
            if (k < 0 || k >= s.length()) return 0;
            char c = s.charAt(k);
            return c == ' ' || c == '\n' ? 1 : c >= 'a' && c <= 'z' ? 2 : c >= '0' && c <= '9' ? 3 : c == ';' ? 4 : 5;
        }
        void blanks() { while (kind(i) == 1) i++; }
        boolean stuck() { return kind(i - 1) + kind(i) == 5 && kind(i) != 1 && kind(i) != 4; }
        String peek() {
            blanks();
            int e = i;
            while (kind(e) == 2) e++;
            return stuck() ? "" : s.substring(i, e);
        }
        void word(String w) { if (!peek().equals(w)) throw new Fault(1, i); i += w.length(); }
        boolean maybe(String w) { boolean is = peek().equals(w); if (is) i += w.length(); return is; }
        String name() {
            String w = peek();
            if (w.isEmpty() || OWN.contains(w)) throw new Fault(1, i);
            if (w.length() > 6) throw new Fault(1, i + 6);
            i += w.length();
            return w;
        }
        int number(int low, int high) {
            blanks();
            if (kind(i) != 3 || stuck()) throw new Fault(1, i);
            int e = i;
            while (kind(e) == 3) { e++; if (e - i == 4) throw new Fault(1, e - 1); }
            int v = Integer.parseInt(s.substring(i, e));
            if (v < low || v > high) throw new Fault(2, i);
            i = e;
            return v;
        }
        String fresh() {
            String w = name();
            if (n.bridges.contains(w) || n.hosts.contains(w)) throw new Fault(3, i - w.length());
            return w;
        }
        int known() {
            String w = name();
            if (!n.bridges.contains(w)) throw new Fault(3, i - w.length());
            return n.bridges.indexOf(w);
        }
        NetTold read() {
            word("net"); word("age"); n.age = number(2, 20); word("delay"); n.delay = number(1, 9);
            semi();
            while (true) {
                blanks();
                if (i == s.length()) return n;
                int here = i;
                if (maybe("bridge")) {
                    if (n.bridges.size() == 8) throw new Fault(5, here);
                    String w = fresh();
                    word("prio");
                    n.prio.add(number(0, 15));
                    n.old.add(maybe("old"));
                    n.bridges.add(w);
                } else if (maybe("link")) {
                    if (n.links.size() == 14) throw new Fault(5, here);
                    LinkTold l = new LinkTold();
                    l.b2 = NONE;
                    l.b1 = known(); l.p1 = full(l.b1, 0); l.e1 = maybe("edge");
                    word("to");
                    int b2 = known();
                    l.p2 = full(b2, b2 == l.b1 ? 1 : 0); l.b2 = b2; l.e2 = maybe("edge");
                    word("cost"); l.cost = number(1, 200);
                    word("takes"); l.takes = number(1, 3);
                    n.links.add(l);
                } else if (maybe("host")) {
                    if (n.hosts.size() == 8) throw new Fault(5, here);
                    n.hosts.add(fresh());
                    word("at");
                    n.at.add(known());
                } else throw new Fault(1, here);
                semi();
            }
        }
        int full(int b, int more) {
            int p = n.portsOf(b) + more;
            if (p >= 6) throw new Fault(5, i - n.bridges.get(b).length());
            return p;
        }
        void semi() { blanks(); if (kind(i) != 4) throw new Fault(1, i); i++; n.statements++; }
    }

    // ------------------------------------------------------------------ texts by chance

    static String text(Random r) {
        StringBuilder t = new StringBuilder("net age " + (2 + r.nextInt(r.nextBoolean() ? 5 : 19)) + " delay " + (1 + r.nextInt(r.nextBoolean() ? 2 : 9)) + ";");
        int bridges = r.nextInt(10) == 0 ? r.nextInt(3) : 2 + r.nextInt(7);
        int oldIn = r.nextInt(3) == 0 ? 2 : 8;
        int edgeIn = r.nextInt(3) == 0 ? 2 : 8;
        boolean sameCosts = r.nextBoolean();
        for (int b = 0; b < bridges; b++) {
            t.append(" bridge ").append(name(b)).append(" prio ").append(r.nextInt(r.nextBoolean() ? 2 : 16));
            t.append(r.nextInt(oldIn) == 0 ? " old;" : ";");
        }
        int[] ports = new int[8];
        int links = bridges == 0 ? 0 : r.nextInt(15);
        for (int l = 0; l < links; l++) {
            int x = r.nextInt(bridges), y = l + 1 < bridges && r.nextInt(4) != 0 ? l + 1 : r.nextInt(bridges);
            ports[x]++; ports[y]++;
            if (ports[x] > 6 || ports[y] > 6) { ports[x]--; ports[y]--; continue; }
            t.append("link ").append(name(x)).append(r.nextInt(edgeIn) == 0 ? " edge" : "").append("\n to ").append(name(y));
            t.append(r.nextInt(edgeIn) == 0 ? " edge" : "").append(" cost ").append(sameCosts ? 1 : 1 + r.nextInt(200));
            t.append(" takes ").append(1 + r.nextInt(3)).append(" ;");
        }
        int hosts = bridges == 0 ? 0 : r.nextInt(9);
        for (int h = 0; h < hosts; h++) t.append("host h").append((char) ('a' + h)).append(" at ").append(name(r.nextInt(bridges))).append(";");
        return t.toString();
    }
    static String name(int b) { return "bridgx".substring(0, 1 + b % 5) + (char) ('p' + b); }

    static String spoilt(String text, Random r) {
        StringBuilder t = new StringBuilder(text);
        for (int k = 1 + r.nextInt(2); k > 0; k--) {
            int at = r.nextInt(t.length() + 1);
            String[] bits = {" ", "\n", ";", "a", "z", "7", "0", "123", "bridge ", "old ", " edge ", "net ", "A", "\t", "-", "xyzabcd", " prio 3", "to"};
            switch (r.nextInt(4)) {
                case 0: t.setLength(at); break;
                case 1: t.insert(at, bits[r.nextInt(bits.length)]); break;
                case 2: t.delete(at, Math.min(t.length(), at + 1 + r.nextInt(4))); break;
                default:
                    String again = text.substring(r.nextInt(text.length()));
                    t.append(again.substring(Math.min(again.length(), again.indexOf(';') + 1)));
                    break;
            }
        }
        return t.length() > 1600 ? t.substring(0, 1600) : t.toString();
    }

    // ------------------------------------------------------------------ both side by side

    static void feed(WaveBridges x, byte[] bytes) {
        for (int at = 0; at < bytes.length; at += 20) {
            int[] v = new int[5];
            for (int k = 0; k < 20; k++) v[k / 4] = v[k / 4] << 8 | (at + k < bytes.length ? bytes[at + k] & 255 : 0);
            x.feed(v[0], v[1], v[2], v[3], v[4]);
        }
        x.end(bytes.length);
    }
    static byte[] bytes(String s) {
        byte[] b = new byte[s.length()];
        for (int k = 0; k < b.length; k++) b[k] = (byte) s.charAt(k);
        return b;
    }

    static void due(long seed, int turn, String call, long got, long want) {
        asked++;
        if (got == want) return;
        wrong++;
        if (wrong < 40) System.out.println("seed " + seed + " turn " + turn + ": " + call + " answered " + got + ", due is " + want);
    }

    static void compare(long seed, int turn, WaveBridges x, World w, int acts, int seen) {
        int b1 = w.bs.size(), l1 = w.whole.size(), h1 = w.home.size();
        int on = 0, whole = 0, open = 0;
        for (B b : w.bs) if (b.on) on++;
        for (int l = 0; l < l1; l++) { if (w.whole.get(l)) whole++; if (w.linkOpen(l)) open++; }
        int[] has = {b1, l1, h1, w.step, w.mail.size(), on, whole, open, w.flushed, w.kept.size(), seen, acts};
        for (int k = 0; k < has.length; k++) due(seed, turn, "has(" + k + ")", x.has(k), has[k]);
        for (int l = 0; l < l1; l++) {
            LinkTold t = w.told.links.get(l);
            int[] row = {t.b1, t.p1, t.b2, t.p2, t.cost, t.takes, w.whole.get(l) ? 1 : 0, w.linkOpen(l) ? 1 : 0, NONE};
            for (int k = 0; k < row.length; k++) due(seed, turn, "link(" + l + ", " + k + ")", x.link(l, k), row[k]);
        }
        for (B b : w.bs) {
            int n = b.number;
            int[] row = {b.id(), b.ports.size(), b.old ? 1 : 0, b.on ? 1 : 0, b.root, b.cost, b.rootPort, b.age, b.shortTime, NONE};
            for (int k = 0; k < row.length; k++) due(seed, turn, "bridge(" + n + ", " + k + ")", x.bridge(n, k), k > 3 && !b.on ? NONE : row[k]);
            int[] duty = b.on ? w.due(n) : new int[] {NONE, NONE, NONE};
            for (int k = 0; k < 3; k++) due(seed, turn, "due(" + n + ", " + k + ")", x.due(n, k), duty[k]);
            for (P p : b.ports) comparePort(seed, turn, x, w, p);
            due(seed, turn, "role at the end", x.role(n, b.ports.size()), NONE);
            for (int h = 0; h < h1; h++) {
                int[] a = b.addresses.getOrDefault(h, new int[] {NONE, NONE});
                for (int k = 0; k < 2; k++) due(seed, turn, "address(" + n + ", " + h + ", " + k + ")", x.address(n, h, k), a[k]);
                due(seed, turn, "leads(" + n + ", " + h + ")", x.leads(n, h), w.leads(n, h));
            }
            for (int c = 0; c < b1; c++) due(seed, turn, "joined(" + n + ", " + c + ")", x.joined(n, c), w.joined(n, c));
        }
        List<Msg> mail = w.sorted();
        for (int k = 0; k < mail.size(); k++) {
            Msg m = mail.get(k);
            int[] row = {m.arrives, m.bridge, m.port, m.reply ? 1 : 0, m.vec.root, m.vec.cost, m.vec.id, m.vec.port, m.age, m.bits(), NONE};
            for (int j = 0; j < row.length; j++) due(seed, turn, "message(" + k + ", " + j + ")", x.message(k, j), row[j]);
        }
        due(seed, turn, "message behind the last", x.message(mail.size(), 0), NONE);
        for (int k = 0; k < w.kept.size(); k++) {
            for (int j = 0; j < 4; j++) due(seed, turn, "kept(" + k + ", " + j + ")", x.kept(k, j), w.kept.get(k)[j]);
        }
        due(seed, turn, "kept behind the last", x.kept(w.kept.size(), 0), NONE);
        due(seed, turn, "rests()", x.rests() ? 1 : 0, w.rests() ? 1 : 0);
        due(seed, turn, "ring(0)", x.ring(0), w.ring());
        due(seed, turn, "ring(1)", x.ring(1), w.ringFirst());
        int[] centre = w.centre();
        for (int k = 0; k < 3; k++) due(seed, turn, "centre(" + k + ")", x.centre(k), centre[k]);
        int[] image = w.image();
        due(seed, turn, "image()", x.image(), image.length);
        for (int k = 0; k < image.length; k++) due(seed, turn, "octet(" + k + ")", x.octet(k), image[k]);
    }
    static void comparePort(long seed, int turn, WaveBridges x, World w, P p) {
        int[] row = {p.role, p.state, p.wait, p.change, p.agreed ? 1 : 0, p.edge ? 1 : 0, p.speaksOld ? 1 : 0,
            p.owesAgreement ? 1 : 0, p.owesAnswer ? 1 : 0, p.marked ? 1 : 0, NONE};
        String at = "(" + p.bridge + ", " + p.number + ", ";
        for (int k = 0; k < row.length; k++) due(seed, turn, "port" + at + k + ")", x.port(p.bridge, p.number, k), row[k]);
        int[] held = p.holds == null ? new int[] {NONE, NONE, NONE, NONE, NONE, NONE}
            : new int[] {p.holds.root, p.holds.cost, p.holds.id, p.holds.port, p.age, p.life};
        for (int k = 0; k < held.length; k++) due(seed, turn, "held" + at + k + ")", x.held(p.bridge, p.number, k), held[k]);
        due(seed, turn, "role" + at + ")", x.role(p.bridge, p.number), w.dueRole(p));
    }

    static long seedNow;
    static int draw(int m) {
        seedNow = Math.floorMod(1103515245L * seedNow + 12345L, 1L << 31);
        return (int) (seedNow / 64 % m);
    }

    static void runOnce(long seed, int turns) {
        Random r = new Random(seed);
        WaveBridges x = new WaveBridges();
        seedNow = 1;
        String t = text(r);
        feed(x, bytes(t));
        NetTold told = new Text(t).read();
        due(seed, 0, "net()", x.net(), told.statements);
        World w = World.of(told);
        List<World> past = new ArrayList<>();
        List<int[]> rows = new ArrayList<>();
        int seenSteps = 0;
        int[] frame = {NONE, NONE, NONE};
        for (int turn = 0; turn < turns; turn++) {
            compare(seed, turn, x, w, past.size(), rows.size());
            for (int k = 0; k < 3; k++) due(seed, turn, "frame(" + k + ")", x.frame(k), frame[k]);
            due(seed, turn, "has(12)", x.has(12), seedNow);
            World before = w.copy();
            boolean act = false;
            int b = r.nextInt(9) - (r.nextInt(9) == 0 ? 1 : 0), l = r.nextInt(15) - (r.nextInt(15) == 0 ? 1 : 0);
            boolean isB = b >= 0 && b < w.bs.size(), isL = l >= 0 && l < w.whole.size();
            switch (r.nextInt(22)) {
                case 0: case 1: case 2: case 3: {
                    int n = r.nextInt(4) == 0 ? 1 + r.nextInt(200) : 1 + r.nextInt(12);
                    act = w.step + n <= 9999;
                    for (int k = 0; act && k < n; k++) w.oneStep();
                    due(seed, turn, "run(" + n + ")", x.run(n), act ? w.step : NONE);
                    break;
                }
                case 4: case 5:
                    act = isL && w.whole.get(l);
                    if (act) w.cut(l);
                    due(seed, turn, "cut(" + l + ")", x.cut(l) ? 1 : 0, act ? 1 : 0);
                    break;
                case 6: case 7:
                    for (int k = 0; k < w.whole.size() && r.nextBoolean(); k++) if (!w.whole.get(k)) l = k;
                    act = l >= 0 && l < w.whole.size() && !w.whole.get(l);
                    if (act) w.mend(l);
                    due(seed, turn, "mend(" + l + ")", x.mend(l) ? 1 : 0, act ? 1 : 0);
                    break;
                case 8:
                    act = isB && w.bs.get(b).on;
                    if (act) w.off(b);
                    due(seed, turn, "stop(" + b + ")", x.stop(b) ? 1 : 0, act ? 1 : 0);
                    break;
                case 9: case 10:
                    act = isB && !w.bs.get(b).on;
                    if (act) w.goesOn(b);
                    due(seed, turn, "start(" + b + ")", x.start(b) ? 1 : 0, act ? 1 : 0);
                    break;
                case 11: {
                    int v = r.nextInt(18) - 1;
                    act = isB && v >= 0 && v <= 15 && w.bs.get(b).prio != v;
                    if (act) { w.bs.get(b).prio = v; if (w.bs.get(b).on) w.choose(w.bs.get(b)); }
                    due(seed, turn, "prio(" + b + ", " + v + ")", x.prio(b, v) ? 1 : 0, act ? 1 : 0);
                    break;
                }
                case 12:
                    act = isB;
                    if (act) {
                        boolean was = w.bs.get(b).on;
                        if (was) w.off(b);
                        w.bs.get(b).old = !w.bs.get(b).old;
                        if (was) w.goesOn(b);
                    }
                    due(seed, turn, "turn(" + b + ")", x.turn(b), act ? w.bs.get(b).old ? 1 : 0 : NONE);
                    break;
                case 13: {
                    int h = r.nextInt(9);
                    act = h < w.home.size() && isB && w.home.get(h) != b;
                    if (act) w.home.set(h, b);
                    due(seed, turn, "move(" + h + ", " + b + ")", x.move(h, b) ? 1 : 0, act ? 1 : 0);
                    break;
                }
                case 14: case 15: case 16: {
                    int h = r.nextInt(w.home.size() + 1), g = r.nextInt(w.home.size() + 1);
                    act = h != g && h < w.home.size() && g < w.home.size();
                    if (act) frame = w.frame(h, g);
                    due(seed, turn, "send(" + h + ", " + g + ")", x.send(h, g), act ? frame[0] : NONE);
                    break;
                }
                case 17: {
                    int n = r.nextInt(4) == 0 ? r.nextInt(22) : 1 + r.nextInt(3);
                    act = n >= 1 && n <= 20 && w.whole.size() > 0 && w.step + 16 * n <= 9999;
                    for (int k = 0; act && k < n; k++) {
                        int d = draw(w.whole.size());
                        if (w.whole.get(d)) w.cut(d); else w.mend(d);
                        for (int s = draw(16); s >= 0; s--) w.oneStep();
                    }
                    int whole = 0;
                    for (boolean y : w.whole) if (y) whole++;
                    due(seed, turn, "chance(" + n + ")", x.chance(n), act ? whole : NONE);
                    break;
                }
                case 18:
                    due(seed, turn, "undo()", x.undo() ? 1 : 0, past.isEmpty() ? 0 : 1);
                    if (!past.isEmpty()) w = past.remove(past.size() - 1);
                    break;
                case 19: {
                    int v = r.nextInt();
                    due(seed, turn, "seed(" + v + ")", x.seed(v) ? 1 : 0, v < 0 ? 0 : 1);
                    if (v >= 0) seedNow = v;
                    break;
                }
                case 20: {
                    int n = r.nextInt(4) == 0 ? r.nextInt(83) - 1 : r.nextInt(20);
                    List<int[]> told3 = new ArrayList<>();
                    boolean good = n >= 0 && n <= 80;
                    int count = r.nextInt(5) == 0 ? r.nextInt(18) : 1 + r.nextInt(3);
                    good &= count >= 1 && count <= 16;
                    int rest = r.nextInt(8) == 0 ? 1 : 0;
                    good &= rest == 0;
                    byte[] tape = new byte[3 * count + rest];
                    World then = w.copy();
                    if (w.whole.size() > 0) { int c = r.nextInt(w.whole.size()); if (w.whole.get(c)) then.cut(c); }
                    for (int k = 0; k < n; k++) then.oneStep();
                    for (int k = 0; k < count; k++) {
                        int rb = r.nextInt(30) == 0 ? r.nextInt(256) : r.nextInt(Math.max(1, w.bs.size()));
                        boolean there = rb < w.bs.size();
                        int ports = there ? w.bs.get(rb).ports.size() : 0;
                        int rp = r.nextInt(30) == 0 ? r.nextInt(7) : r.nextInt(Math.max(1, ports));
                        there &= rp < ports;
                        int role = !there || r.nextInt(12) == 0 ? r.nextInt(7) : then.bs.get(rb).ports.get(rp).role;
                        good &= there && role <= 4;
                        told3.add(new int[] {rb, rp, role});
                        tape[3 * k] = (byte) rb; tape[3 * k + 1] = (byte) rp; tape[3 * k + 2] = (byte) role;
                    }
                    feed(x, tape);
                    due(seed, turn, "see(" + n + ")", x.see(n), good ? count : NONE);
                    if (good) { rows = told3; seenSteps = n; }
                    break;
                }
                default: {
                    int[] image = w.image();
                    if (r.nextInt(3) == 0) {
                        for (int k = 0; k < image.length - 1; k++) {
                            if (r.nextInt(3) == 0) image[k] = r.nextInt(r.nextInt(20) == 0 ? 17 : 2);
                        }
                    }
                    int c = 151;
                    for (int k = 0; k < image.length - 1; k++) c = (3 * c + image[k]) % 251;
                    image[image.length - 1] = r.nextInt(12) == 0 ? r.nextInt(256) : c;
                    boolean good = image[image.length - 1] == c;
                    int b1 = w.bs.size(), l1 = w.whole.size();
                    for (int k = 0; k < image.length - 1; k++) {
                        int limit = k >= 3 * b1 + l1 ? b1 : k < 3 * b1 && k % 3 == 1 ? 16 : 2;
                        good &= image[k] < limit;
                    }
                    byte[] tape = new byte[image.length];
                    for (int k = 0; k < tape.length; k++) tape[k] = (byte) image[k];
                    feed(x, tape);
                    due(seed, turn, "on()", x.on() ? 1 : 0, good ? 1 : 0);
                    if (good) {
                        for (B y : w.bs) {
                            y.on = image[3 * y.number] == 1; y.prio = image[3 * y.number + 1]; y.old = image[3 * y.number + 2] == 1;
                        }
                        for (int k = 0; k < l1; k++) w.whole.set(k, image[3 * b1 + k] == 1);
                        for (int k = 0; k < w.home.size(); k++) w.home.set(k, image[3 * b1 + l1 + k]);
                        w.begin();
                        past.clear();
                    }
                    break;
                }
            }
            if (act) { past.add(before); if (past.size() > 20) past.remove(0); }
            if (r.nextInt(4) == 0) ahead(seed, turn, x, w, rows, seenSteps, r);
        }
    }

    static void ahead(long seed, int turn, WaveBridges x, World w, List<int[]> rows, int seenSteps, Random r) {
        int l1 = w.whole.size();
        due(seed, turn, "when()", x.when(), w.when());
        int n = 1 + r.nextInt(r.nextInt(4) == 0 ? 200 : 20);
        due(seed, turn, "rings(" + n + ")", x.rings(n), w.rings(n));
        for (int l = 0; l < l1; l++) if (r.nextInt(3) == 0) due(seed, turn, "heal(" + l + ")", x.heal(l), w.whole.get(l) ? w.heal(l) : NONE);
        int[] worst = w.worst();
        for (int k = 0; k < 2; k++) due(seed, turn, "worst(" + k + ")", x.worst(k), worst[k]);
        List<Integer> names = new ArrayList<>();
        List<World> thens = w.thens(rows, seenSteps, names);
        due(seed, turn, "suspect(-1)", x.suspect(-1), names.size());
        for (int k = 0; k < 16; k++) due(seed, turn, "suspect(" + k + ")", x.suspect(k), k < names.size() ? names.get(k) : NONE);
        int[] telling = w.telling(thens);
        for (int k = 0; k < 3; k++) due(seed, turn, "tells(" + k + ")", x.tells(k), telling[k]);
    }

    /** Nets in which what was heard goes around for long: what random nets hardly ever do. */
    static final String[] LONG = {
        "bridge a prio 11;bridge b prio 15;bridge c prio 15 old;link b to c cost 5 takes 3;link c to a cost 5 takes 3;"
            + "link c to b cost 3 takes 2;link b to c cost 4 takes 1;",
        "bridge a prio 7;bridge b prio 8 old;bridge c prio 11;link c to b cost 4 takes 3;link c to b cost 5 takes 2;"
            + "link a to b cost 1 takes 2;link c to b cost 2 takes 1;",
        "bridge a prio 5;bridge b prio 15 old;bridge c prio 5;link b to c cost 1 takes 1;link b to c cost 5 takes 3;"
            + "link b to c cost 3 takes 2;link a to b cost 1 takes 1;",
        "bridge a prio 13;bridge b prio 11;bridge c prio 11;bridge d prio 13 old;bridge e prio 6 old;link a to c cost 3 takes 1;"
            + "link a to b cost 5 takes 3;link c to d cost 5 takes 3;link c to d cost 4 takes 2;link c to e cost 4 takes 2;"
            + "link d to a cost 3 takes 1;link c to a cost 2 takes 3;"};

    static void goAround(int which) {
        String t = "net age 20 delay 9;" + LONG[which];
        WaveBridges x = new WaveBridges();
        feed(x, bytes(t));
        NetTold told = new Text(t).read();
        due(-which, 0, "net()", x.net(), told.statements);
        World w = World.of(told);
        Random r = new Random(which);
        for (int turn = 1; turn <= 12; turn++) {
            x.run(1);
            w.oneStep();
            ahead(-which, turn, x, w, new ArrayList<>(), 0, r);
        }
        for (int l = 0; l < w.whole.size(); l++) {
            World cut = w.copy();
            cut.cut(l);
            WaveBridges y = new WaveBridges();
            feed(y, bytes(t));
            y.net();
            y.run(12);
            y.cut(l);
            for (int turn = 0; turn < 60; turn++) {
                for (int k = 0; k < 5; k++) cut.oneStep();
                y.run(5);
                compare(-which, turn, y, cut, Math.min(20, 3 + turn), 0);
            }
        }
    }

    static void readOnce(long seed) {
        Random r = new Random(seed);
        String good = text(r);
        WaveBridges x = new WaveBridges();
        int refused = 0;
        for (int k = 0; k < 20; k++) {
            String t = spoilt(good, r);
            int statements = NONE, fault = 0, place = NONE;
            try {
                statements = new Text(t).read().statements;
            } catch (Fault f) {
                fault = f.kind; place = f.place; refused++;
            }
            feed(x, bytes(t));
            int got = x.net();
            if (got != statements || x.fault(0) != fault || x.fault(1) != place) System.out.println("text: " + t.replace("\n", "\\n"));
            due(seed, k, "net()", got, statements);
            due(seed, k, "fault(0)", x.fault(0), fault);
            due(seed, k, "fault(1)", x.fault(1), place);
            due(seed, k, "status(1)", x.status(1), refused);
        }
    }

    /** Any calls with any arguments, 512 on one object: nothing may be thrown. */
    static void anything(long seed, List<Method> calls) throws IllegalAccessException {
        Random r = new Random(seed);
        WaveBridges x = new WaveBridges();
        for (int k = 0; k < 512; k++) {
            if (r.nextInt(60) == 0 || k == 20) {
                x.end(0);
                String t = text(r);
                feed(x, bytes(r.nextInt(3) == 0 ? spoilt(t, r) : t));
                x.net();
            }
            Method call = calls.get(r.nextInt(calls.size()));
            Object[] given = new Object[call.getParameterCount()];
            for (int j = 0; j < given.length; j++) {
                int kind = r.nextInt(10);
                given[j] = kind < 7 ? r.nextInt(16) - 2 : kind < 8 ? r.nextInt(210) : kind < 9 ? r.nextInt() : r.nextInt(2) - 1 ^ Integer.MIN_VALUE;
            }
            asked++;
            try {
                call.invoke(x, given);
            } catch (InvocationTargetException e) {
                wrong++;
                System.out.println("seed " + seed + " call " + k + ": " + call.getName() + Arrays.toString(given) + " threw " + e.getCause());
                return;
            }
        }
    }

    static List<Method> face() {
        List<Method> calls = new ArrayList<>();
        for (Method m : WaveBridges.class.getDeclaredMethods()) if (Modifier.isPublic(m.getModifiers())) calls.add(m);
        calls.sort((a, b) -> a.getName().compareTo(b.getName()));
        due(0, 0, "how many public methods", calls.size(), 44);
        return calls;
    }

    public static void main(String[] args) throws IllegalAccessException {
        int runs = args.length > 0 ? Integer.parseInt(args[0]) : 250;
        long first = args.length > 1 ? Long.parseLong(args[1]) : 1;
        for (long seed = first; seed < first + 20L * runs; seed++) readOnce(seed);
        for (long seed = first; seed < first + runs; seed++) runOnce(seed, 60);
        for (int which = 0; which < LONG.length; which++) goAround(which);
        List<Method> calls = face();
        for (long seed = first; seed < first + runs; seed++) anything(seed, calls);
        System.out.println(asked + " answers compared");
        System.out.println(wrong == 0 ? "all answers are as due" : wrong + " answers are not as due");
        if (wrong != 0) System.exit(1);
    }
}

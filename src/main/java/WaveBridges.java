import java.util.Arrays;

/**
 * A net of bridges that heals at once: what each bridge chooses, proposes, agrees to and spreads,
 * told by steps, with questions about what is due and acts that can be undone.
 */
public final class WaveBridges {
    public static final int NONE = -1;

    private static final int BRIDGES = 8;
    private static final int LINKS = 14;
    private static final int HOSTS = 8;
    private static final int PORTS = 6;
    private static final int ENDS = 2 * LINKS;
    private static final int LETTERS = 6;
    private static final int HOST_PLACE = PORTS;
    private static final int PRIOS = 16;

    private static final int DOWN = 0;
    private static final int ROOT = 1;
    private static final int DESIGNATED = 2;
    private static final int ALTERNATE = 3;
    private static final int BACKUP = 4;
    private static final int ROLES = 5;

    private static final int SHUT = 0;
    private static final int LEARNING = 1;
    private static final int OPEN = 2;

    private static final int STAYS = 0;
    private static final int TO_OPEN = 1;
    private static final int TO_SHUT = 2;

    private static final int PROPOSAL = 1;
    private static final int AGREEMENT = 2;
    private static final int CHANGE = 4;
    private static final int ANSWER = 8;
    private static final int OLD = 16;

    private static final int MAIL_SLOTS = 3;
    private static final int TICK_STEPS = 8;
    private static final int CHANGE_TICKS = 2;
    private static final int LIFE_TICKS = 3;
    private static final int ADDRESS_TICKS = 30;
    private static final int PASSINGS = 64;
    private static final int KEPT_ROWS = 40;
    private static final int KEPT_COLUMNS = 4;
    private static final int FLUSHED_MOST = 9999;
    private static final int FAR = 1000000;

    private static final int TAPE_BYTES = 1600;
    private static final int FED_NUMBERS = 5;
    private static final int LAST_STEP = 9999;
    private static final int RUN_STEPS = 200;
    private static final int WHEN_STEPS = 400;
    private static final int HEAL_STEPS = 320;
    private static final int SEE_STEPS = 80;
    private static final int SEEN_ROWS = 16;
    private static final int SEEN_COLUMNS = 3;
    private static final int ACTS = 20;
    private static final int CHANCES = 20;
    private static final int CHANCE_STEPS = 16;
    private static final int LEADS_LINKS = 8;
    private static final int IMAGE_BYTES = 3 * BRIDGES + LINKS + HOSTS + 1;
    private static final int IMAGE_START = 151;
    private static final int IMAGE_MODULUS = 251;

    private static final int REFUSED_KINDS = 6;
    private static final int BY_TAPE = 0;
    private static final int BY_NET = 1;
    private static final int BY_RUN = 2;
    private static final int BY_CHANGE = 3;
    private static final int BY_FRAME = 4;
    private static final int BY_SIGHT = 5;

    /** What is told of a way to the root: of two the less one is the better one. */
    private static final class Vector {
        int root;
        int cost;
        int id;
        int port;

        void copyFrom(Vector other) {
            root = other.root;
            cost = other.cost;
            id = other.id;
            port = other.port;
        }

        /** Below 0, if this one is less than the other one, 0, if they are alike. */
        int against(Vector other) {
            if (root != other.root) {
                return root < other.root ? -1 : 1;
            }
            if (cost != other.cost) {
                return cost < other.cost ? -1 : 1;
            }
            if (id != other.id) {
                return id < other.id ? -1 : 1;
            }
            if (port != other.port) {
                return port < other.port ? -1 : 1;
            }
            return 0;
        }
    }

    /** One end of a link, as it is now. */
    private static final class Port {
        final Vector held = new Vector();
        boolean holds;
        int heldAge;
        int life;
        int role;
        int lastRole;
        int state;
        int wait;
        int change;
        boolean agreed;
        boolean edge;
        boolean speaksOld;
        boolean owesAgreement;
        boolean owesAnswer;
        boolean marked;

        void clear(boolean asEdge) {
            holds = false;
            heldAge = 0;
            life = 0;
            role = DOWN;
            lastRole = DOWN;
            state = SHUT;
            wait = 0;
            change = 0;
            agreed = false;
            edge = asEdge;
            speaksOld = false;
            owesAgreement = false;
            owesAnswer = false;
            marked = false;
        }

        void copyFrom(Port other) {
            held.copyFrom(other.held);
            holds = other.holds;
            heldAge = other.heldAge;
            life = other.life;
            role = other.role;
            lastRole = other.lastRole;
            state = other.state;
            wait = other.wait;
            change = other.change;
            agreed = other.agreed;
            edge = other.edge;
            speaksOld = other.speaksOld;
            owesAgreement = other.owesAgreement;
            owesAnswer = other.owesAnswer;
            marked = other.marked;
        }

        boolean isInUse() {
            return role == ROOT || role == DESIGNATED;
        }

        /**
         * What follows from the role just told, but for the state: which way that goes is answered,
         * as opening and shutting reach beyond the port. moved is below 0, if the vector got worse.
         */
        int settle(boolean oldBridge, int moved, int delay) {
            if (role == ROOT) {
                return settleRoot(oldBridge, delay);
            }
            if (role == DESIGNATED) {
                return settleDesignated(moved, delay);
            }
            if (role == DOWN) {
                return STAYS;
            }
            agreed = false;
            wait = 0;
            change = 0;
            owesAnswer = false;
            return TO_SHUT;
        }

        private int settleRoot(boolean oldBridge, int delay) {
            agreed = false;
            if (!oldBridge) {
                return TO_OPEN;
            }
            if (lastRole != ROOT && lastRole != DESIGNATED) {
                wait = delay;
            }
            return STAYS;
        }

        private int settleDesignated(int moved, int delay) {
            holds = false;
            owesAgreement = false;
            if (lastRole != DESIGNATED) {
                agreed = false;
                marked = true;
                if (edge) {
                    return TO_OPEN;
                }
                wait = delay;
                return TO_SHUT;
            }
            if (moved != 0) {
                marked = true;
            }
            if (moved < 0) {
                agreed = false;
            }
            return STAYS;
        }

        int tell(int what) {
            switch (what) {
                case 0:
                    return role;
                case 1:
                    return state;
                case 2:
                    return wait;
                case 3:
                    return change;
                case 4:
                    return agreed ? 1 : 0;
                case 5:
                    return edge ? 1 : 0;
                case 6:
                    return speaksOld ? 1 : 0;
                case 7:
                    return owesAgreement ? 1 : 0;
                case 8:
                    return owesAnswer ? 1 : 0;
                case 9:
                    return marked ? 1 : 0;
                default:
                    return NONE;
            }
        }

        int tellHeld(int what) {
            switch (holds ? what : NONE) {
                case 0:
                    return held.root;
                case 1:
                    return held.cost;
                case 2:
                    return held.id;
                case 3:
                    return held.port;
                case 4:
                    return heldAge;
                case 5:
                    return life;
                default:
                    return NONE;
            }
        }
    }

    /** A bridge, as it is now. */
    private static final class Bridge {
        final int number;
        // OUR VECTOR but for the port, as chosen now and as it was chosen the time before.
        final Vector chosen = new Vector();
        final Vector before = new Vector();
        boolean on;
        boolean old;
        int prio;
        int age;
        int rootPort;
        int shortTime;

        Bridge(int number) {
            this.number = number;
        }

        int id() {
            return PRIOS * prio + number;
        }

        void rule() {
            chosen.root = id();
            chosen.cost = 0;
            chosen.id = id();
            age = 0;
            rootPort = NONE;
        }

        void follow(int port, Vector least, int heldAge) {
            chosen.root = least.root;
            chosen.cost = least.cost;
            chosen.id = id();
            age = heldAge + 1;
            rootPort = port;
        }

        void copyFrom(Bridge other) {
            chosen.copyFrom(other.chosen);
            before.copyFrom(other.before);
            on = other.on;
            old = other.old;
            prio = other.prio;
            age = other.age;
            rootPort = other.rootPort;
            shortTime = other.shortTime;
        }

        int tellChosen(int what) {
            switch (on ? what : NONE) {
                case 4:
                    return chosen.root;
                case 5:
                    return chosen.cost;
                case 6:
                    return rootPort;
                case 7:
                    return age;
                case 8:
                    return shortTime;
                default:
                    return NONE;
            }
        }
    }

    /** A place for a message on its way to one port. */
    private static final class Message {
        final Vector vector = new Vector();
        boolean there;
        int arrives;
        boolean reply;
        int age;
        int bits;

        boolean carries(int bit) {
            return (bits & bit) != 0;
        }

        void copyFrom(Message other) {
            there = other.there;
            if (!there) {
                return;
            }
            vector.copyFrom(other.vector);
            arrives = other.arrives;
            reply = other.reply;
            age = other.age;
            bits = other.bits;
        }
    }

    /** The net as it was told; ends are numbered by links, two each, so that 'end ^ 1' is the other one. */
    private static final class Wiring {
        final int[] bridgeNames = new int[BRIDGES * LETTERS];
        final int[] hostNames = new int[HOSTS * LETTERS];
        final int[] toldPrio = new int[BRIDGES];
        final boolean[] toldOld = new boolean[BRIDGES];
        final int[] ports = new int[BRIDGES];
        final int[] endAt = new int[BRIDGES * PORTS];
        final int[] bridgeOf = new int[ENDS];
        final int[] portOf = new int[ENDS];
        final boolean[] toldEdge = new boolean[ENDS];
        final int[] cost = new int[LINKS];
        final int[] takes = new int[LINKS];
        final int[] toldHome = new int[HOSTS];
        boolean told;
        int age;
        int delay;
        int bridges;
        int links;
        int hosts;

        void clear() {
            told = false;
            age = 0;
            delay = 0;
            bridges = 0;
            links = 0;
            hosts = 0;
            Arrays.fill(ports, 0);
        }

        boolean isBridge(int bridge) {
            return bridge >= 0 && bridge < bridges;
        }

        boolean isLink(int link) {
            return link >= 0 && link < links;
        }

        boolean isHost(int host) {
            return host >= 0 && host < hosts;
        }

        boolean isPort(int bridge, int port) {
            return isBridge(bridge) && port >= 0 && port < ports[bridge];
        }

        int endOf(int bridge, int port) {
            return endAt[bridge * PORTS + port];
        }

        int farBridge(int end) {
            return bridgeOf[end ^ 1];
        }

        void addPort(int bridge, int end) {
            endAt[bridge * PORTS + ports[bridge]] = end;
            bridgeOf[end] = bridge;
            portOf[end] = ports[bridge];
            toldEdge[end] = false;
            ports[bridge]++;
        }
    }

    /** Reads the text of a net, byte by byte, up to its first fault. */
    private static final class Reader {
        private static final int OWN_WORDS = 13;

        final int[] letters = new int[LETTERS];
        final int[] bytes;
        int length;
        int at;
        int touching;
        int value;
        int nameAt;
        int fault;
        int place;
        Wiring wiring;

        Reader(int[] bytes, Wiring into) {
            this.bytes = bytes;
            wiring = into;
            place = NONE;
        }

        private static String ownWord(int k) {
            switch (k) {
                case 0:
                    return "net";
                case 1:
                    return "age";
                case 2:
                    return "delay";
                case 3:
                    return "bridge";
                case 4:
                    return "prio";
                case 5:
                    return "old";
                case 6:
                    return "link";
                case 7:
                    return "edge";
                case 8:
                    return "to";
                case 9:
                    return "cost";
                case 10:
                    return "takes";
                case 11:
                    return "host";
                default:
                    return "at";
            }
        }

        /** How many statements there are; NONE with a fault. */
        int statements(int textLength, Wiring into) {
            length = textLength;
            wiring = into;
            wiring.clear();
            at = 0;
            touching = NONE;
            fault = 0;
            place = NONE;
            // A statement has more than one byte: the text is read long before the loop's bound.
            for (int count = 0; count < TAPE_BYTES; count++) {
                skipBlanks();
                if (count > 0 && at >= length) {
                    wiring.told = true;
                    return count;
                }
                boolean good;
                if (count == 0) {
                    good = netStatement();
                } else if (nextIs("bridge")) {
                    good = bridgeStatement();
                } else if (nextIs("link")) {
                    good = linkStatement();
                } else if (nextIs("host")) {
                    good = hostStatement();
                } else {
                    good = fails(1, at);
                }
                if (!good || !semicolon()) {
                    return NONE;
                }
            }
            return NONE;
        }

        private boolean netStatement() {
            if (!word("net") || !word("age") || !number(2, 20)) {
                return false;
            }
            wiring.age = value;
            if (!word("delay") || !number(1, 9)) {
                return false;
            }
            wiring.delay = value;
            return true;
        }

        private boolean bridgeStatement() {
            if (wiring.bridges == BRIDGES) {
                return fails(5, at);
            }
            if (!word("bridge") || !newName()) {
                return false;
            }
            int bridge = wiring.bridges;
            System.arraycopy(letters, 0, wiring.bridgeNames, bridge * LETTERS, LETTERS);
            if (!word("prio") || !number(0, PRIOS - 1)) {
                return false;
            }
            wiring.toldPrio[bridge] = value;
            wiring.toldOld[bridge] = nextIs("old");
            wiring.bridges++;
            return !wiring.toldOld[bridge] || word("old");
        }

        private boolean linkStatement() {
            if (wiring.links == LINKS) {
                return fails(5, at);
            }
            int link = wiring.links;
            if (!word("link") || !linkEnd(2 * link) || !word("to") || !linkEnd(2 * link + 1)) {
                return false;
            }
            if (!word("cost") || !number(1, 200)) {
                return false;
            }
            wiring.cost[link] = value;
            if (!word("takes") || !number(1, MAIL_SLOTS)) {
                return false;
            }
            wiring.takes[link] = value;
            wiring.links++;
            return true;
        }

        private boolean linkEnd(int end) {
            int bridge = bridgeName();
            if (bridge == NONE) {
                return false;
            }
            if (wiring.ports[bridge] == PORTS) {
                return fails(5, nameAt);
            }
            wiring.addPort(bridge, end);
            if (!nextIs("edge")) {
                return true;
            }
            wiring.toldEdge[end] = true;
            return word("edge");
        }

        private boolean hostStatement() {
            if (wiring.hosts == HOSTS) {
                return fails(5, at);
            }
            if (!word("host") || !newName()) {
                return false;
            }
            int host = wiring.hosts;
            System.arraycopy(letters, 0, wiring.hostNames, host * LETTERS, LETTERS);
            wiring.hosts++;
            if (!word("at")) {
                return false;
            }
            int bridge = bridgeName();
            if (bridge == NONE) {
                return false;
            }
            wiring.toldHome[host] = bridge;
            return true;
        }

        private boolean newName() {
            if (!name()) {
                return false;
            }
            boolean known = named(wiring.bridgeNames, wiring.bridges) != NONE
                    || named(wiring.hostNames, wiring.hosts) != NONE;
            return !known || fails(3, nameAt);
        }

        /** The bridge of the name that comes; NONE with a fault. */
        private int bridgeName() {
            if (!name()) {
                return NONE;
            }
            int bridge = named(wiring.bridgeNames, wiring.bridges);
            if (bridge == NONE) {
                fails(3, nameAt);
            }
            return bridge;
        }

        private int named(int[] names, int count) {
            for (int which = 0; which < count; which++) {
                int alike = 0;
                while (alike < LETTERS && names[which * LETTERS + alike] == letters[alike]) {
                    alike++;
                }
                if (alike == LETTERS) {
                    return which;
                }
            }
            return NONE;
        }

        private boolean name() {
            skipBlanks();
            int size = wordEnd() - at;
            if (size == 0 || at == touching) {
                return fails(1, at);
            }
            for (int k = 0; k < OWN_WORDS; k++) {
                if (isWord(ownWord(k))) {
                    return fails(1, at);
                }
            }
            if (size > LETTERS) {
                return fails(1, at + LETTERS);
            }
            for (int k = 0; k < LETTERS; k++) {
                letters[k] = k < size ? bytes[at + k] - 'a' + 1 : 0;
            }
            nameAt = at;
            pass(size);
            return true;
        }

        private boolean number(int least, int most) {
            skipBlanks();
            if (!isDigit(at) || at == touching) {
                return fails(1, at);
            }
            int size = 0;
            value = 0;
            while (size < 3 && isDigit(at + size)) {
                value = 10 * value + bytes[at + size] - '0';
                size++;
            }
            if (isDigit(at + size)) {
                return fails(1, at + size);
            }
            if (value < least || value > most) {
                return fails(2, at);
            }
            pass(size);
            return true;
        }

        private boolean word(String word) {
            if (!nextIs(word)) {
                return fails(1, at);
            }
            pass(word.length());
            return true;
        }

        private boolean semicolon() {
            skipBlanks();
            if (at >= length || bytes[at] != ';') {
                return fails(1, at);
            }
            at++;
            return true;
        }

        private boolean nextIs(String word) {
            skipBlanks();
            return at != touching && isWord(word);
        }

        private boolean isWord(String word) {
            int size = word.length();
            if (wordEnd() - at != size) {
                return false;
            }
            for (int k = 0; k < size; k++) {
                if (bytes[at + k] != word.charAt(k)) {
                    return false;
                }
            }
            return true;
        }

        private int wordEnd() {
            int end = at;
            while (end < length && bytes[end] >= 'a' && bytes[end] <= 'z') {
                end++;
            }
            return end;
        }

        private boolean isDigit(int where) {
            return where < length && bytes[where] >= '0' && bytes[where] <= '9';
        }

        private void skipBlanks() {
            while (at < length && (bytes[at] == ' ' || bytes[at] == 10)) {
                at++;
            }
        }

        // A word and a number side by side need a blank: what starts where the last one ended is a fault.
        private void pass(int size) {
            at += size;
            touching = at;
        }

        private boolean fails(int kind, int where) {
            fault = kind;
            place = where;
            return false;
        }
    }

    /** All of a net that changes, with what steps and acts do to it. */
    private static final class State {
        final Bridge[] bridges = new Bridge[BRIDGES];
        final Port[] ports = new Port[ENDS];
        final Message[] mail = new Message[ENDS * MAIL_SLOTS];
        final boolean[] whole = new boolean[LINKS];
        final int[] home = new int[HOSTS];
        final int[] learntAt = new int[BRIDGES * HOSTS];
        final int[] learntAge = new int[BRIDGES * HOSTS];
        final int[] keptRows = new int[KEPT_ROWS * KEPT_COLUMNS];
        final boolean[] touched = new boolean[BRIDGES];
        final Vector ours = new Vector();
        final Vector offer = new Vector();
        final Vector least = new Vector();
        Wiring wiring;
        int step;
        int flushed;
        int keptFirst;
        int keptCount;
        boolean beginning;

        State(Wiring wiring) {
            this.wiring = wiring;
            for (int b = 0; b < BRIDGES; b++) {
                bridges[b] = new Bridge(b);
            }
            for (int end = 0; end < ENDS; end++) {
                ports[end] = new Port();
            }
            for (int slot = 0; slot < mail.length; slot++) {
                mail[slot] = new Message();
            }
        }

        void copyFrom(State other) {
            wiring = other.wiring;
            step = other.step;
            flushed = other.flushed;
            keptFirst = other.keptFirst;
            keptCount = other.keptCount;
            for (int b = 0; b < BRIDGES; b++) {
                bridges[b].copyFrom(other.bridges[b]);
            }
            for (int end = 0; end < ENDS; end++) {
                ports[end].copyFrom(other.ports[end]);
            }
            for (int slot = 0; slot < mail.length; slot++) {
                mail[slot].copyFrom(other.mail[slot]);
            }
            for (int link = 0; link < LINKS; link++) {
                whole[link] = other.whole[link];
            }
            System.arraycopy(other.home, 0, home, 0, HOSTS);
            System.arraycopy(other.learntAt, 0, learntAt, 0, learntAt.length);
            System.arraycopy(other.learntAge, 0, learntAge, 0, learntAge.length);
            System.arraycopy(other.keptRows, 0, keptRows, 0, keptRows.length);
        }

        // ---- how it begins

        void beginAsTold(Wiring told) {
            wiring = told;
            for (int b = 0; b < wiring.bridges; b++) {
                bridges[b].on = true;
                bridges[b].prio = wiring.toldPrio[b];
                bridges[b].old = wiring.toldOld[b];
            }
            for (int link = 0; link < wiring.links; link++) {
                whole[link] = true;
            }
            System.arraycopy(wiring.toldHome, 0, home, 0, HOSTS);
            begin();
        }

        void begin() {
            step = 0;
            flushed = 0;
            keptFirst = 0;
            keptCount = 0;
            Arrays.fill(learntAt, NONE);
            Arrays.fill(learntAge, 0);
            beginning = true;
            for (int end = 0; end < 2 * wiring.links; end++) {
                dropMail(end);
                ports[end].clear(isUp(end) && wiring.toldEdge[end]);
            }
            for (int b = 0; b < wiring.bridges; b++) {
                bridges[b].shortTime = 0;
                touched[b] = true;
            }
            chooseTouched();
            beginning = false;
        }

        // ---- what there is

        boolean isUp(int end) {
            return whole[end >> 1] && bridges[wiring.bridgeOf[end]].on && bridges[wiring.farBridge(end)].on;
        }

        boolean isOpen(int link) {
            return ports[2 * link].state == OPEN && ports[2 * link + 1].state == OPEN;
        }

        int countOn() {
            int count = 0;
            for (int b = 0; b < wiring.bridges; b++) {
                count += bridges[b].on ? 1 : 0;
            }
            return count;
        }

        int countWhole() {
            int count = 0;
            for (int link = 0; link < wiring.links; link++) {
                count += whole[link] ? 1 : 0;
            }
            return count;
        }

        int countOpen() {
            int count = 0;
            for (int link = 0; link < wiring.links; link++) {
                count += isOpen(link) ? 1 : 0;
            }
            return count;
        }

        int countMail() {
            int count = 0;
            for (int slot = 0; slot < 2 * wiring.links * MAIL_SLOTS; slot++) {
                count += mail[slot].there ? 1 : 0;
            }
            return count;
        }

        /** The slot of the k-th message, as they arrive; NONE when there are not so many. */
        int mailSlot(int k) {
            int left = k;
            for (int arrives = step; arrives < step + MAIL_SLOTS; arrives++) {
                for (int b = 0; b < wiring.bridges; b++) {
                    for (int p = 0; p < wiring.ports[b]; p++) {
                        int slot = slotOf(wiring.endOf(b, p), arrives);
                        if (!mail[slot].there) {
                            continue;
                        }
                        if (left == 0) {
                            return slot;
                        }
                        left--;
                    }
                }
            }
            return NONE;
        }

        // A port sends once in a step and its link takes the same time always: one place is enough
        // for each port and each of the next three steps.
        private static int slotOf(int end, int arrives) {
            return end * MAIL_SLOTS + arrives % MAIL_SLOTS;
        }

        private Vector oursAt(int end) {
            ours.copyFrom(bridges[wiring.bridgeOf[end]].chosen);
            ours.port = wiring.portOf[end];
            return ours;
        }

        // ---- up and down

        private void comeUp(int end) {
            ports[end].clear(wiring.toldEdge[end]);
        }

        // Both ends of a link go down together: so goes the mail of both ways.
        private void goDown(int end) {
            ports[end].clear(false);
            dropMail(end);
            forgetAt(end);
        }

        private void dropMail(int end) {
            for (int k = 0; k < MAIL_SLOTS; k++) {
                mail[end * MAIL_SLOTS + k].there = false;
            }
        }

        private void forgetAt(int end) {
            int row = wiring.bridgeOf[end] * HOSTS;
            for (int h = 0; h < HOSTS; h++) {
                if (learntAt[row + h] == wiring.portOf[end]) {
                    learntAt[row + h] = NONE;
                }
            }
        }

        void learn(int bridge, int host, int place) {
            learntAt[bridge * HOSTS + host] = place;
            learntAge[bridge * HOSTS + host] = 0;
        }

        // ---- how a bridge chooses

        private void chooseTouched() {
            for (int b = 0; b < wiring.bridges; b++) {
                if (touched[b] && bridges[b].on) {
                    choose(b);
                }
                touched[b] = false;
            }
        }

        private void choose(int b) {
            Bridge bridge = bridges[b];
            bridge.before.copyFrom(bridge.chosen);
            pickRoot(bridge);
            tellRoles(bridge);
            int moved = bridge.before.against(bridge.chosen);
            for (int p = 0; p < wiring.ports[b]; p++) {
                int end = wiring.endOf(b, p);
                int way = ports[end].settle(bridge.old, moved, wiring.delay);
                if (way == TO_OPEN) {
                    open(end);
                } else if (way == TO_SHUT) {
                    shut(end);
                }
            }
        }

        private void pickRoot(Bridge bridge) {
            int best = NONE;
            int bestAge = 0;
            for (int p = 0; p < wiring.ports[bridge.number]; p++) {
                int end = wiring.endOf(bridge.number, p);
                Port port = ports[end];
                if (!port.holds || port.held.id == bridge.id()) {
                    continue;
                }
                offer.copyFrom(port.held);
                offer.cost += wiring.cost[end >> 1];
                if (best == NONE || offer.against(least) < 0) {
                    best = p;
                    bestAge = port.heldAge;
                    least.copyFrom(offer);
                }
            }
            if (best != NONE && least.root < bridge.id()) {
                bridge.follow(best, least, bestAge);
            } else {
                bridge.rule();
            }
        }

        private void tellRoles(Bridge bridge) {
            for (int p = 0; p < wiring.ports[bridge.number]; p++) {
                int end = wiring.endOf(bridge.number, p);
                Port port = ports[end];
                port.lastRole = port.role;
                if (!isUp(end)) {
                    port.role = DOWN;
                } else if (p == bridge.rootPort) {
                    port.role = ROOT;
                } else if (port.holds && port.held.against(oursAt(end)) < 0) {
                    port.role = port.held.id == bridge.id() ? BACKUP : ALTERNATE;
                } else {
                    port.role = DESIGNATED;
                }
            }
        }

        // ---- states of ports

        private void open(int end) {
            Port port = ports[end];
            if (port.state == OPEN) {
                return;
            }
            enter(end, OPEN);
            port.wait = 0;
            if (port.edge) {
                return;
            }
            port.change = CHANGE_TICKS;
            port.marked = true;
            spread(end);
        }

        private void shut(int end) {
            if (ports[end].state == SHUT) {
                return;
            }
            enter(end, SHUT);
            forgetAt(end);
        }

        private void enter(int end, int state) {
            ports[end].state = state;
            if (beginning) {
                return;
            }
            int row = (keptFirst + keptCount) % KEPT_ROWS;
            if (keptCount == KEPT_ROWS) {
                keptFirst = (keptFirst + 1) % KEPT_ROWS;
            } else {
                keptCount++;
            }
            keptRows[row * KEPT_COLUMNS] = step;
            keptRows[row * KEPT_COLUMNS + 1] = wiring.bridgeOf[end];
            keptRows[row * KEPT_COLUMNS + 2] = wiring.portOf[end];
            keptRows[row * KEPT_COLUMNS + 3] = state;
        }

        private void spread(int from) {
            int b = wiring.bridgeOf[from];
            for (int p = 0; p < wiring.ports[b]; p++) {
                int end = wiring.endOf(b, p);
                Port port = ports[end];
                if (end != from && port.isInUse() && !port.edge && port.change == 0) {
                    port.change = CHANGE_TICKS;
                    port.marked = true;
                }
            }
            if (bridges[b].old) {
                bridges[b].shortTime = wiring.age + wiring.delay;
                return;
            }
            for (int h = 0; h < wiring.hosts; h++) {
                int place = learntAt[b * HOSTS + h];
                if (place == NONE || place == HOST_PLACE || place == wiring.portOf[from]) {
                    continue;
                }
                if (!ports[wiring.endOf(b, place)].edge) {
                    learntAt[b * HOSTS + h] = NONE;
                    flushed = Math.min(FLUSHED_MOST, flushed + 1);
                }
            }
        }

        // ---- a step

        void step() {
            if (step % TICK_STEPS == 0) {
                for (int b = 0; b < wiring.bridges; b++) {
                    if (bridges[b].on) {
                        tick(b);
                    }
                }
            }
            for (int b = 0; b < wiring.bridges; b++) {
                for (int p = 0; p < wiring.ports[b]; p++) {
                    int end = wiring.endOf(b, p);
                    Message message = mail[slotOf(end, step)];
                    if (!message.there) {
                        continue;
                    }
                    message.there = false;
                    if (!isRead(end, message)) {
                        continue;
                    }
                    if (message.reply) {
                        readReply(end, message);
                    } else {
                        readConfig(end, message);
                    }
                }
            }
            for (int b = 0; b < wiring.bridges; b++) {
                for (int p = 0; p < wiring.ports[b]; p++) {
                    speak(wiring.endOf(b, p));
                }
            }
            step++;
        }

        void steps(int count) {
            for (int k = 0; k < count; k++) {
                step();
            }
        }

        private void tick(int b) {
            if (fade(b)) {
                choose(b);
            }
            for (int p = 0; p < wiring.ports[b]; p++) {
                int end = wiring.endOf(b, p);
                Port port = ports[end];
                if (!port.isInUse() || port.state == OPEN || port.wait == 0) {
                    continue;
                }
                port.wait--;
                if (port.wait != 0) {
                    continue;
                }
                if (port.state == SHUT) {
                    enter(end, LEARNING);
                    port.wait = wiring.delay;
                } else {
                    open(end);
                }
            }
            ageAddresses(b);
            markByTick(b);
        }

        /** Changes, the short time and lives run down: whether a vector went by it. */
        private boolean fade(int b) {
            boolean went = false;
            Bridge bridge = bridges[b];
            if (bridge.shortTime != 0) {
                bridge.shortTime--;
            }
            for (int p = 0; p < wiring.ports[b]; p++) {
                Port port = ports[wiring.endOf(b, p)];
                if (port.change != 0) {
                    port.change--;
                }
                if (!port.holds) {
                    continue;
                }
                port.life--;
                if (port.life == 0) {
                    port.holds = false;
                    went = true;
                }
            }
            return went;
        }

        private void ageAddresses(int b) {
            boolean isShort = bridges[b].shortTime != 0;
            for (int k = b * HOSTS; k < b * HOSTS + HOSTS; k++) {
                if (learntAt[k] == NONE) {
                    continue;
                }
                learntAge[k]++;
                if (learntAge[k] >= ADDRESS_TICKS || isShort && learntAge[k] > wiring.delay) {
                    learntAt[k] = NONE;
                }
            }
        }

        private void markByTick(int b) {
            Bridge bridge = bridges[b];
            boolean speaks = !bridge.old || bridge.rootPort == NONE;
            for (int p = 0; p < wiring.ports[b]; p++) {
                Port port = ports[wiring.endOf(b, p)];
                if (port.role == DESIGNATED && speaks || port.role == ROOT && port.change != 0) {
                    port.marked = true;
                }
            }
        }

        // ---- messages

        /** Whether the bridge reads it, with what any message that is read does to its port. */
        private boolean isRead(int end, Message message) {
            Port port = ports[end];
            boolean oldBridge = bridges[wiring.bridgeOf[end]].old;
            boolean oldMessage = message.carries(OLD);
            if (oldBridge && !oldMessage) {
                return false;
            }
            if (port.edge) {
                port.edge = false;
                shut(end);
                port.wait = wiring.delay;
            }
            if (!oldBridge && port.speaksOld != oldMessage) {
                port.speaksOld = oldMessage;
                port.marked = true;
            }
            return true;
        }

        private void readConfig(int end, Message message) {
            Port port = ports[end];
            int b = wiring.bridgeOf[end];
            if (message.age + 1 > wiring.age) {
                if (port.holds) {
                    port.holds = false;
                    choose(b);
                }
                return;
            }
            if (!port.holds && message.vector.against(oursAt(end)) >= 0) {
                port.marked = true;
                return;
            }
            port.holds = true;
            port.held.copyFrom(message.vector);
            port.heldAge = message.age;
            port.life = LIFE_TICKS;
            choose(b);
            if (port.role == DESIGNATED) {
                return;
            }
            if (message.carries(PROPOSAL)) {
                takeProposal(end);
            }
            if (port.role == ROOT) {
                followRoot(end, message);
            }
        }

        private void takeProposal(int end) {
            int b = wiring.bridgeOf[end];
            for (int p = 0; p < wiring.ports[b] && ports[end].role == ROOT; p++) {
                int other = wiring.endOf(b, p);
                Port port = ports[other];
                if (port.role == DESIGNATED && !port.edge && !port.agreed) {
                    shut(other);
                    port.wait = wiring.delay;
                    port.marked = true;
                }
            }
            ports[end].owesAgreement = true;
            ports[end].marked = true;
        }

        private void followRoot(int end, Message message) {
            int b = wiring.bridgeOf[end];
            if (bridges[b].old) {
                for (int p = 0; p < wiring.ports[b]; p++) {
                    Port port = ports[wiring.endOf(b, p)];
                    if (port.role == DESIGNATED) {
                        port.marked = true;
                    }
                }
            }
            if (message.carries(ANSWER)) {
                ports[end].change = 0;
            }
            if (message.carries(CHANGE)) {
                spread(end);
            }
        }

        private void readReply(int end, Message message) {
            Port port = ports[end];
            if (port.role != DESIGNATED) {
                return;
            }
            if (message.carries(AGREEMENT) && message.vector.against(oursAt(end)) == 0) {
                port.agreed = true;
                open(end);
            }
            if (message.carries(CHANGE)) {
                spread(end);
                if (message.carries(OLD)) {
                    port.owesAnswer = true;
                    port.marked = true;
                }
            }
        }

        private void speak(int end) {
            Port port = ports[end];
            if (!port.marked) {
                return;
            }
            port.marked = false;
            boolean old = port.speaksOld || bridges[wiring.bridgeOf[end]].old;
            boolean config = port.role == DESIGNATED;
            int bits = config ? configBits(port, old) : replyBits(port, old);
            if (!config && (bits & (AGREEMENT | CHANGE)) == 0) {
                return;
            }
            int arrives = step + wiring.takes[end >> 1];
            Message message = mail[slotOf(end ^ 1, arrives)];
            message.there = true;
            message.arrives = arrives;
            message.reply = !config;
            message.vector.copyFrom(config ? oursAt(end) : port.held);
            message.age = config ? bridges[wiring.bridgeOf[end]].age : 0;
            message.bits = bits;
        }

        private static int configBits(Port port, boolean old) {
            int bits = old ? OLD : 0;
            if (!old && port.state != OPEN) {
                bits |= PROPOSAL;
            }
            if (port.change != 0) {
                bits |= CHANGE;
            }
            if (port.owesAnswer) {
                bits |= ANSWER;
            }
            port.owesAnswer = false;
            return bits;
        }

        private static int replyBits(Port port, boolean old) {
            int bits = old ? OLD : 0;
            if (!old && port.owesAgreement) {
                bits |= AGREEMENT;
            }
            if (port.change != 0) {
                bits |= CHANGE;
            }
            port.owesAgreement = false;
            return bits;
        }

        // ---- acts

        void cutLink(int link) {
            goDown(2 * link);
            goDown(2 * link + 1);
            whole[link] = false;
            touchEnds(link);
            chooseTouched();
        }

        void mendLink(int link) {
            whole[link] = true;
            if (isUp(2 * link)) {
                comeUp(2 * link);
                comeUp(2 * link + 1);
            }
            touchEnds(link);
            chooseTouched();
        }

        private void touchEnds(int link) {
            touched[wiring.bridgeOf[2 * link]] = true;
            touched[wiring.bridgeOf[2 * link + 1]] = true;
        }

        void turnOff(int b) {
            for (int p = 0; p < wiring.ports[b]; p++) {
                int end = wiring.endOf(b, p);
                if (isUp(end)) {
                    touched[wiring.farBridge(end)] = true;
                }
                goDown(end);
                goDown(end ^ 1);
            }
            bridges[b].on = false;
            for (int k = b * HOSTS; k < b * HOSTS + HOSTS; k++) {
                learntAt[k] = NONE;
            }
            chooseTouched();
        }

        void turnOn(int b) {
            bridges[b].on = true;
            bridges[b].shortTime = 0;
            for (int p = 0; p < wiring.ports[b]; p++) {
                int end = wiring.endOf(b, p);
                if (isUp(end)) {
                    comeUp(end);
                    comeUp(end ^ 1);
                    touched[wiring.farBridge(end)] = true;
                }
            }
            touched[b] = true;
            chooseTouched();
        }

        void turnAge(int b) {
            boolean on = bridges[b].on;
            if (on) {
                turnOff(b);
            }
            bridges[b].old = !bridges[b].old;
            if (on) {
                turnOn(b);
            }
        }

        void changePrio(int b, int prio) {
            bridges[b].prio = prio;
            touched[b] = true;
            chooseTouched();
        }

        /** By how many links the addresses lead to the host; NONE when they don't. */
        int linksTo(int bridge, int host) {
            int b = bridge;
            for (int passed = 0; passed <= LEADS_LINKS; passed++) {
                int place = learntAt[b * HOSTS + host];
                if (place == NONE) {
                    return NONE;
                }
                if (place == HOST_PLACE) {
                    return home[host] == b ? passed : NONE;
                }
                int end = wiring.endOf(b, place);
                if (!isUp(end)) {
                    return NONE;
                }
                b = wiring.farBridge(end);
            }
            return NONE;
        }
    }

    /** What is due to bridges and ports by the links that are up. */
    private static final class Due {
        final int[] way = new int[BRIDGES * BRIDGES];
        final int[] root = new int[BRIDGES];
        final int[] cost = new int[BRIDGES];
        final int[] rootPort = new int[BRIDGES];
        final int[] role = new int[ENDS];
        final Vector one = new Vector();
        final Vector other = new Vector();
        int centre;
        int centreJoined;
        int centreSum;

        void find(State state) {
            findWays(state);
            for (int b = 0; b < state.wiring.bridges; b++) {
                findRoot(state, b);
            }
            for (int b = 0; b < state.wiring.bridges; b++) {
                findRootPort(state, b);
            }
            for (int end = 0; end < 2 * state.wiring.links; end++) {
                role[end] = findRole(state, end);
            }
        }

        private void findWays(State state) {
            Arrays.fill(way, FAR);
            for (int b = 0; b < state.wiring.bridges; b++) {
                way[b * BRIDGES + b] = state.bridges[b].on ? 0 : FAR;
            }
            for (int end = 0; end < 2 * state.wiring.links; end++) {
                if (state.isUp(end)) {
                    int k = state.wiring.bridgeOf[end] * BRIDGES + state.wiring.farBridge(end);
                    way[k] = Math.min(way[k], state.wiring.cost[end >> 1]);
                }
            }
            for (int by = 0; by < BRIDGES; by++) {
                for (int k = 0; k < BRIDGES * BRIDGES; k++) {
                    int sum = way[k / BRIDGES * BRIDGES + by] + way[by * BRIDGES + k % BRIDGES];
                    way[k] = Math.min(way[k], sum);
                }
            }
        }

        private void findRoot(State state, int b) {
            root[b] = NONE;
            for (int c = 0; c < state.wiring.bridges; c++) {
                int id = state.bridges[c].id();
                if (way[b * BRIDGES + c] < FAR && (root[b] == NONE || id < root[b])) {
                    root[b] = id;
                    cost[b] = way[b * BRIDGES + c];
                }
            }
        }

        private void findRootPort(State state, int b) {
            rootPort[b] = NONE;
            if (root[b] == state.bridges[b].id()) {
                return;
            }
            for (int p = 0; p < state.wiring.ports[b]; p++) {
                int end = state.wiring.endOf(b, p);
                if (!state.isUp(end) || state.wiring.farBridge(end) == b) {
                    continue;
                }
                tellVector(state, end ^ 1, one);
                one.cost += state.wiring.cost[end >> 1];
                if (rootPort[b] == NONE || one.against(other) < 0) {
                    rootPort[b] = p;
                    other.copyFrom(one);
                }
            }
        }

        private void tellVector(State state, int end, Vector into) {
            int b = state.wiring.bridgeOf[end];
            into.root = root[b];
            into.cost = cost[b];
            into.id = state.bridges[b].id();
            into.port = state.wiring.portOf[end];
        }

        private int findRole(State state, int end) {
            int b = state.wiring.bridgeOf[end];
            if (!state.isUp(end)) {
                return DOWN;
            }
            if (state.wiring.portOf[end] == rootPort[b]) {
                return ROOT;
            }
            tellVector(state, end ^ 1, one);
            tellVector(state, end, other);
            if (one.against(other) >= 0) {
                return DESIGNATED;
            }
            return state.wiring.farBridge(end) == b ? BACKUP : ALTERNATE;
        }

        /** Whether all is as it was last found to be due. */
        boolean isMet(State state) {
            for (int b = 0; b < state.wiring.bridges; b++) {
                Bridge bridge = state.bridges[b];
                if (!bridge.on) {
                    continue;
                }
                if (bridge.chosen.root != root[b] || bridge.chosen.cost != cost[b] || bridge.rootPort != rootPort[b]) {
                    return false;
                }
            }
            for (int end = 0; end < 2 * state.wiring.links; end++) {
                Port port = state.ports[end];
                if (port.role != role[end] || port.state != (port.isInUse() ? OPEN : SHUT)) {
                    return false;
                }
            }
            return true;
        }

        void findCentre(State state) {
            findWays(state);
            centre = NONE;
            centreJoined = NONE;
            centreSum = NONE;
            for (int b = 0; b < state.wiring.bridges; b++) {
                int joined = 0;
                int sum = 0;
                for (int c = 0; c < state.wiring.bridges; c++) {
                    if (way[b * BRIDGES + c] < FAR) {
                        joined++;
                        sum += way[b * BRIDGES + c];
                    }
                }
                boolean better = joined > centreJoined || joined == centreJoined && sum < centreSum;
                if (state.bridges[b].on && better) {
                    centre = b;
                    centreJoined = joined;
                    centreSum = sum;
                }
            }
        }
    }

    /** What the open links join. */
    private static final class Shape {
        final int[] label = new int[BRIDGES];
        final int[] far = new int[BRIDGES];

        /** Bridges that are joined by open links, one of which is left out, get the same label. */
        private void labelJoined(State state, int without) {
            for (int b = 0; b < BRIDGES; b++) {
                label[b] = b;
            }
            for (int link = 0; link < state.wiring.links; link++) {
                if (link == without || !state.isOpen(link)) {
                    continue;
                }
                int one = label[state.wiring.bridgeOf[2 * link]];
                int other = label[state.wiring.bridgeOf[2 * link + 1]];
                for (int b = 0; b < BRIDGES; b++) {
                    label[b] = label[b] == other ? one : label[b];
                }
            }
        }

        private boolean areJoined(State state, int link) {
            return label[state.wiring.bridgeOf[2 * link]] == label[state.wiring.bridgeOf[2 * link + 1]];
        }

        boolean isHealed(State state) {
            labelJoined(state, NONE);
            for (int link = 0; link < state.wiring.links; link++) {
                if (state.isUp(2 * link) && !areJoined(state, link)) {
                    return false;
                }
            }
            return true;
        }

        /** How many open links could be shut with nobody parted. */
        int countSpare(State state) {
            labelJoined(state, NONE);
            int labels = 0;
            for (int b = 0; b < state.wiring.bridges; b++) {
                boolean isNew = true;
                for (int c = 0; c < b; c++) {
                    isNew = isNew && label[c] != label[b];
                }
                labels += isNew ? 1 : 0;
            }
            return state.countOpen() - state.wiring.bridges + labels;
        }

        int firstOnRing(State state) {
            int first = NONE;
            for (int link = 0; link < state.wiring.links; link++) {
                if (!state.isOpen(link)) {
                    continue;
                }
                labelJoined(state, link);
                if (!areJoined(state, link)) {
                    continue;
                }
                int least = Math.min(state.wiring.bridgeOf[2 * link], state.wiring.bridgeOf[2 * link + 1]);
                first = first == NONE ? least : Math.min(first, least);
            }
            return first;
        }

        int countBetween(State state, int from, int to) {
            Arrays.fill(far, FAR);
            far[from] = 0;
            for (int pass = 0; pass < BRIDGES; pass++) {
                for (int link = 0; link < state.wiring.links; link++) {
                    if (!state.isOpen(link)) {
                        continue;
                    }
                    int one = state.wiring.bridgeOf[2 * link];
                    int other = state.wiring.bridgeOf[2 * link + 1];
                    far[one] = Math.min(far[one], far[other] + 1);
                    far[other] = Math.min(far[other], far[one] + 1);
                }
            }
            return far[to] < FAR ? far[to] : NONE;
        }
    }

    /** A frame on its way through the net, and what the latest one came to. */
    private static final class Frame {
        final int[] queueBridge = new int[PASSINGS + 1];
        final int[] queuePort = new int[PASSINGS + 1];
        int queued;
        boolean was;
        int came;
        int passed;
        boolean storm;

        void carry(State state, int from, int to) {
            was = true;
            came = 0;
            passed = 0;
            storm = false;
            queued = 0;
            int start = state.home[from];
            if (!state.bridges[start].on) {
                return;
            }
            state.learn(start, from, HOST_PLACE);
            queue(start, NONE);
            for (int k = 0; k < queued && k <= PASSINGS && !storm; k++) {
                int b = queueBridge[k];
                int place = state.learntAt[b * HOSTS + to];
                if (place == NONE) {
                    flood(state, from, to, k);
                } else if (place == HOST_PLACE) {
                    reach(state, b, to);
                } else if (place != queuePort[k]) {
                    pass(state, state.wiring.endOf(b, place), from);
                }
            }
        }

        private void flood(State state, int from, int to, int k) {
            int b = queueBridge[k];
            for (int p = 0; p < state.wiring.ports[b] && !storm; p++) {
                if (p != queuePort[k]) {
                    pass(state, state.wiring.endOf(b, p), from);
                }
            }
            if (!storm) {
                reach(state, b, to);
            }
        }

        private void reach(State state, int b, int to) {
            if (state.home[to] == b) {
                came++;
            }
        }

        private void pass(State state, int end, int from) {
            if (state.ports[end].state != OPEN) {
                return;
            }
            if (passed == PASSINGS) {
                storm = true;
                return;
            }
            passed++;
            int far = end ^ 1;
            if (state.ports[far].state == SHUT) {
                return;
            }
            state.learn(state.wiring.bridgeOf[far], from, state.wiring.portOf[far]);
            if (state.ports[far].state == OPEN) {
                queue(state.wiring.bridgeOf[far], state.wiring.portOf[far]);
            }
        }

        private void queue(int bridge, int port) {
            queueBridge[queued] = bridge;
            queuePort[queued] = port;
            queued++;
        }
    }

    /** What was seen, and which cut link it speaks for. */
    private static final class Sight {
        final int[] rows = new int[SEEN_ROWS * SEEN_COLUMNS];
        final int[] suspects = new int[LINKS + 1];
        // Of each suspect the roles of all ports, as they would be behind the steps seen.
        final int[] roles = new int[(LINKS + 1) * ENDS];
        int count;
        int steps;
        int found;
        int tellingBridge;
        int tellingPort;
        int tellingLeft;

        void clear() {
            count = 0;
            steps = 0;
        }

        void findSuspects(State now, State ahead) {
            found = 0;
            for (int link = 0; link <= now.wiring.links; link++) {
                boolean cuts = link < now.wiring.links;
                if (cuts && !now.whole[link]) {
                    continue;
                }
                ahead.copyFrom(now);
                if (cuts) {
                    ahead.cutLink(link);
                }
                for (int k = 0; k < steps; k++) {
                    ahead.step();
                }
                if (isAsSeen(ahead)) {
                    for (int end = 0; end < ENDS; end++) {
                        roles[found * ENDS + end] = ahead.ports[end].role;
                    }
                    suspects[found] = link;
                    found++;
                }
            }
        }

        private boolean isAsSeen(State ahead) {
            for (int k = 0; k < count * SEEN_COLUMNS; k += SEEN_COLUMNS) {
                int end = ahead.wiring.endOf(rows[k], rows[k + 1]);
                if (ahead.ports[end].role != rows[k + 2]) {
                    return false;
                }
            }
            return true;
        }

        void findTelling(Wiring wiring) {
            tellingBridge = NONE;
            tellingPort = NONE;
            tellingLeft = NONE;
            if (found == 0) {
                return;
            }
            for (int b = 0; b < wiring.bridges; b++) {
                for (int p = 0; p < wiring.ports[b]; p++) {
                    int left = countLeft(wiring.endOf(b, p));
                    if (tellingLeft == NONE || left < tellingLeft) {
                        tellingBridge = b;
                        tellingPort = p;
                        tellingLeft = left;
                    }
                }
            }
        }

        private int countLeft(int end) {
            int most = 0;
            for (int role = 0; role < ROLES; role++) {
                int alike = 0;
                for (int k = 0; k < found; k++) {
                    alike += roles[k * ENDS + end] == role ? 1 : 0;
                }
                most = Math.max(most, alike);
            }
            return most;
        }
    }

    private final int[] tape = new int[TAPE_BYTES];
    private final Reader reader;
    private final State ahead;
    private final State now;
    private final State[] past = new State[ACTS];
    private final Due dues = new Due();
    private final Shape shape = new Shape();
    private final Frame latest = new Frame();
    private final Sight sight = new Sight();
    private final int[] written = new int[IMAGE_BYTES];
    private final int[] refused = new int[REFUSED_KINDS];
    private Wiring wiring = new Wiring();
    private Wiring spare = new Wiring();
    private int tapeLength;
    private int pastFirst;
    private int pastCount;
    private int writtenLength;
    private int drawn;

    public WaveBridges() {
        reader = new Reader(tape, spare);
        now = new State(wiring);
        ahead = new State(wiring);
        drawn = 1;
    }

    // ---- the tape and the net

    public int feed(int a, int b, int c, int d, int e) {
        if (tapeLength + 4 * FED_NUMBERS > TAPE_BYTES) {
            return refuse(BY_TAPE);
        }
        putNumber(a);
        putNumber(b);
        putNumber(c);
        putNumber(d);
        putNumber(e);
        return tapeLength;
    }

    private void putNumber(int number) {
        for (int shift = 24; shift >= 0; shift -= 8) {
            tape[tapeLength] = number >> shift & 255;
            tapeLength++;
        }
    }

    public boolean end(int n) {
        if (n < 0 || n > tapeLength) {
            return refuses(BY_TAPE);
        }
        tapeLength = n;
        return true;
    }

    public int net() {
        int count = reader.statements(takeTape(), spare);
        if (count == NONE) {
            return refuse(BY_NET);
        }
        Wiring before = wiring;
        wiring = spare;
        spare = before;
        now.beginAsTold(wiring);
        sight.clear();
        latest.was = false;
        pastCount = 0;
        return count;
    }

    /** The tape goes: how many bytes were on it; they can be read until it is fed again. */
    private int takeTape() {
        int length = tapeLength;
        tapeLength = 0;
        return length;
    }

    private int refuse(int kind) {
        refused[kind]++;
        return NONE;
    }

    private boolean refuses(int kind) {
        refused[kind]++;
        return false;
    }

    public int fault(int what) {
        switch (what) {
            case 0:
                return reader.fault;
            case 1:
                return reader.place;
            default:
                return NONE;
        }
    }

    // ---- what there is

    public int has(int what) {
        switch (what) {
            case 0:
                return wiring.bridges;
            case 1:
                return wiring.links;
            case 2:
                return wiring.hosts;
            case 3:
                return now.step;
            case 4:
                return now.countMail();
            case 5:
                return now.countOn();
            case 6:
                return now.countWhole();
            case 7:
                return now.countOpen();
            case 8:
                return now.flushed;
            case 9:
                return now.keptCount;
            case 10:
                return sight.count;
            case 11:
                return pastCount;
            case 12:
                return drawn;
            default:
                return NONE;
        }
    }

    public int letter(int kind, int which, int k) {
        if (k < 0 || k >= LETTERS) {
            return NONE;
        }
        if (kind == 0 && wiring.isBridge(which)) {
            return wiring.bridgeNames[which * LETTERS + k];
        }
        if (kind == 1 && wiring.isHost(which)) {
            return wiring.hostNames[which * LETTERS + k];
        }
        return NONE;
    }

    public int link(int link, int what) {
        if (!wiring.isLink(link)) {
            return NONE;
        }
        switch (what) {
            case 0:
                return wiring.bridgeOf[2 * link];
            case 1:
                return wiring.portOf[2 * link];
            case 2:
                return wiring.bridgeOf[2 * link + 1];
            case 3:
                return wiring.portOf[2 * link + 1];
            case 4:
                return wiring.cost[link];
            case 5:
                return wiring.takes[link];
            case 6:
                return now.whole[link] ? 1 : 0;
            case 7:
                return now.isOpen(link) ? 1 : 0;
            default:
                return NONE;
        }
    }

    public int bridge(int bridge, int what) {
        if (!wiring.isBridge(bridge)) {
            return NONE;
        }
        Bridge one = now.bridges[bridge];
        switch (what) {
            case 0:
                return one.id();
            case 1:
                return wiring.ports[bridge];
            case 2:
                return one.old ? 1 : 0;
            case 3:
                return one.on ? 1 : 0;
            default:
                return one.tellChosen(what);
        }
    }

    public int port(int bridge, int port, int what) {
        if (!wiring.isPort(bridge, port)) {
            return NONE;
        }
        return now.ports[wiring.endOf(bridge, port)].tell(what);
    }

    public int held(int bridge, int port, int what) {
        if (!wiring.isPort(bridge, port)) {
            return NONE;
        }
        return now.ports[wiring.endOf(bridge, port)].tellHeld(what);
    }

    public int address(int bridge, int host, int what) {
        if (!wiring.isBridge(bridge) || !wiring.isHost(host)) {
            return NONE;
        }
        int k = bridge * HOSTS + host;
        if (now.learntAt[k] == NONE) {
            return NONE;
        }
        switch (what) {
            case 0:
                return now.learntAt[k];
            case 1:
                return now.learntAge[k];
            default:
                return NONE;
        }
    }

    public int message(int k, int what) {
        int slot = k < 0 ? NONE : now.mailSlot(k);
        if (slot == NONE) {
            return NONE;
        }
        Message message = now.mail[slot];
        int end = slot / MAIL_SLOTS;
        switch (what) {
            case 0:
                return message.arrives;
            case 1:
                return wiring.bridgeOf[end];
            case 2:
                return wiring.portOf[end];
            case 3:
                return message.reply ? 1 : 0;
            case 4:
                return message.vector.root;
            case 5:
                return message.vector.cost;
            case 6:
                return message.vector.id;
            case 7:
                return message.vector.port;
            case 8:
                return message.age;
            case 9:
                return message.bits;
            default:
                return NONE;
        }
    }

    public int kept(int k, int what) {
        if (k < 0 || k >= now.keptCount || what < 0 || what >= KEPT_COLUMNS) {
            return NONE;
        }
        int row = (now.keptFirst + k) % KEPT_ROWS;
        return now.keptRows[row * KEPT_COLUMNS + what];
    }

    // ---- what is due, rests, rings

    public int due(int bridge, int what) {
        if (!wiring.isBridge(bridge) || !now.bridges[bridge].on) {
            return NONE;
        }
        dues.find(now);
        switch (what) {
            case 0:
                return dues.root[bridge];
            case 1:
                return dues.cost[bridge];
            case 2:
                return dues.rootPort[bridge];
            default:
                return NONE;
        }
    }

    public int role(int bridge, int port) {
        if (!wiring.isPort(bridge, port)) {
            return NONE;
        }
        dues.find(now);
        return dues.role[wiring.endOf(bridge, port)];
    }

    public boolean rests() {
        dues.find(now);
        return dues.isMet(now);
    }

    public int when() {
        if (!wiring.told) {
            return NONE;
        }
        ahead.copyFrom(now);
        dues.find(ahead);
        for (int steps = 0; steps <= WHEN_STEPS; steps++) {
            if (dues.isMet(ahead)) {
                return steps;
            }
            ahead.step();
        }
        return NONE;
    }

    public int ring(int what) {
        switch (what) {
            case 0:
                return shape.countSpare(now);
            case 1:
                return shape.firstOnRing(now);
            default:
                return NONE;
        }
    }

    public int rings(int n) {
        if (n < 1 || n > RUN_STEPS || !wiring.told) {
            return NONE;
        }
        ahead.copyFrom(now);
        int count = 0;
        for (int steps = 0; steps < n; steps++) {
            ahead.step();
            count += shape.countSpare(ahead) > 0 ? 1 : 0;
        }
        return count;
    }

    public int joined(int one, int other) {
        if (!isOn(one) || !isOn(other)) {
            return NONE;
        }
        return shape.countBetween(now, one, other);
    }

    private boolean isOn(int bridge) {
        return wiring.isBridge(bridge) && now.bridges[bridge].on;
    }

    public int leads(int bridge, int host) {
        if (!wiring.isBridge(bridge) || !wiring.isHost(host)) {
            return NONE;
        }
        return now.linksTo(bridge, host);
    }

    // ---- cuts

    public int heal(int link) {
        return isWhole(link) ? countHealing(link) : NONE;
    }

    private boolean isWhole(int link) {
        return wiring.isLink(link) && now.whole[link];
    }

    private int countHealing(int link) {
        ahead.copyFrom(now);
        ahead.cutLink(link);
        for (int steps = 0; steps <= HEAL_STEPS; steps++) {
            if (shape.isHealed(ahead)) {
                return steps;
            }
            ahead.step();
        }
        return NONE;
    }

    public int worst(int what) {
        if (what != 0 && what != 1) {
            return NONE;
        }
        int worstLink = NONE;
        int worstSteps = NONE;
        for (int link = 0; link < wiring.links; link++) {
            if (!now.whole[link]) {
                continue;
            }
            int steps = countHealing(link);
            if (steps == NONE) {
                return what == 0 ? link : NONE;
            }
            if (steps > worstSteps) {
                worstLink = link;
                worstSteps = steps;
            }
        }
        return what == 0 ? worstLink : worstSteps;
    }

    public int see(int n) {
        int length = takeTape();
        if (n < 0 || n > SEE_STEPS || !wiring.told || !isSight(length)) {
            return refuse(BY_SIGHT);
        }
        System.arraycopy(tape, 0, sight.rows, 0, length);
        sight.count = length / SEEN_COLUMNS;
        sight.steps = n;
        return sight.count;
    }

    private boolean isSight(int length) {
        if (length == 0 || length > SEEN_ROWS * SEEN_COLUMNS || length % SEEN_COLUMNS != 0) {
            return false;
        }
        for (int k = 0; k < length; k += SEEN_COLUMNS) {
            if (!wiring.isPort(tape[k], tape[k + 1]) || tape[k + 2] >= ROLES) {
                return false;
            }
        }
        return true;
    }

    public int suspect(int k) {
        if (!wiring.told || k < NONE || k > wiring.links) {
            return NONE;
        }
        sight.findSuspects(now, ahead);
        if (k == NONE) {
            return sight.found;
        }
        return k < sight.found ? sight.suspects[k] : NONE;
    }

    public int tells(int what) {
        if (!wiring.told || what < 0 || what > 2) {
            return NONE;
        }
        sight.findSuspects(now, ahead);
        sight.findTelling(wiring);
        switch (what) {
            case 0:
                return sight.tellingBridge;
            case 1:
                return sight.tellingPort;
            default:
                return sight.tellingLeft;
        }
    }

    public int centre(int what) {
        dues.findCentre(now);
        switch (what) {
            case 0:
                return dues.centre;
            case 1:
                return dues.centreJoined;
            case 2:
                return dues.centreSum;
            default:
                return NONE;
        }
    }

    // ---- acts

    public int run(int n) {
        if (n < 1 || n > RUN_STEPS || !wiring.told || now.step + n > LAST_STEP) {
            return refuse(BY_RUN);
        }
        keepPast();
        now.steps(n);
        return now.step;
    }

    /** An act comes: what is now can be come back to; the oldest of too many is given up. */
    private void keepPast() {
        int place = (pastFirst + pastCount) % ACTS;
        if (pastCount == ACTS) {
            pastFirst = (pastFirst + 1) % ACTS;
        } else {
            pastCount++;
        }
        if (past[place] == null) {
            past[place] = new State(wiring);
        }
        past[place].copyFrom(now);
    }

    public boolean cut(int link) {
        if (!isWhole(link)) {
            return refuses(BY_CHANGE);
        }
        keepPast();
        now.cutLink(link);
        return true;
    }

    public boolean mend(int link) {
        if (!wiring.isLink(link) || now.whole[link]) {
            return refuses(BY_CHANGE);
        }
        keepPast();
        now.mendLink(link);
        return true;
    }

    public boolean stop(int bridge) {
        if (!isOn(bridge)) {
            return refuses(BY_CHANGE);
        }
        keepPast();
        now.turnOff(bridge);
        return true;
    }

    public boolean start(int bridge) {
        if (!wiring.isBridge(bridge) || now.bridges[bridge].on) {
            return refuses(BY_CHANGE);
        }
        keepPast();
        now.turnOn(bridge);
        return true;
    }

    public boolean prio(int bridge, int prio) {
        if (!wiring.isBridge(bridge) || prio < 0 || prio >= PRIOS || now.bridges[bridge].prio == prio) {
            return refuses(BY_CHANGE);
        }
        keepPast();
        now.changePrio(bridge, prio);
        return true;
    }

    public int turn(int bridge) {
        if (!wiring.isBridge(bridge)) {
            return refuse(BY_CHANGE);
        }
        keepPast();
        now.turnAge(bridge);
        return now.bridges[bridge].old ? 1 : 0;
    }

    public boolean move(int host, int bridge) {
        if (!wiring.isHost(host) || !wiring.isBridge(bridge) || now.home[host] == bridge) {
            return refuses(BY_CHANGE);
        }
        keepPast();
        now.home[host] = bridge;
        return true;
    }

    public int send(int from, int to) {
        if (!wiring.isHost(from) || !wiring.isHost(to) || from == to) {
            return refuse(BY_FRAME);
        }
        keepPast();
        latest.carry(now, from, to);
        return latest.came;
    }

    public int frame(int what) {
        switch (latest.was ? what : NONE) {
            case 0:
                return latest.came;
            case 1:
                return latest.passed;
            case 2:
                return latest.storm ? 1 : 0;
            default:
                return NONE;
        }
    }

    public int chance(int n) {
        if (n < 1 || n > CHANCES || wiring.links == 0 || now.step + CHANCE_STEPS * n > LAST_STEP) {
            return refuse(BY_RUN);
        }
        keepPast();
        for (int k = 0; k < n; k++) {
            int link = draw(wiring.links);
            if (now.whole[link]) {
                now.cutLink(link);
            } else {
                now.mendLink(link);
            }
            now.steps(draw(CHANCE_STEPS) + 1);
        }
        return now.countWhole();
    }

    private int draw(int most) {
        long next = 1103515245L * drawn + 12345L;
        drawn = (int) (next & 0x7fffffff);
        return most <= 0 ? 0 : drawn / 64 % most;
    }

    public boolean undo() {
        if (pastCount == 0) {
            return refuses(BY_FRAME);
        }
        pastCount--;
        State before = past[(pastFirst + pastCount) % ACTS];
        if (before != null) {
            now.copyFrom(before);
        }
        return true;
    }

    public boolean seed(int seed) {
        if (seed < 0) {
            return refuses(BY_SIGHT);
        }
        drawn = seed;
        return true;
    }

    // ---- images, refusals

    public int image() {
        writtenLength = 0;
        for (int b = 0; b < wiring.bridges; b++) {
            Bridge bridge = now.bridges[b];
            write(bridge.on ? 1 : 0);
            write(bridge.prio);
            write(bridge.old ? 1 : 0);
        }
        for (int link = 0; link < wiring.links; link++) {
            write(now.whole[link] ? 1 : 0);
        }
        for (int host = 0; host < wiring.hosts; host++) {
            write(now.home[host]);
        }
        write(checkOf(written, writtenLength));
        return writtenLength;
    }

    private void write(int value) {
        written[writtenLength] = value;
        writtenLength++;
    }

    private static int checkOf(int[] bytes, int length) {
        int check = IMAGE_START;
        for (int k = 0; k < length; k++) {
            check = (3 * check + bytes[k]) % IMAGE_MODULUS;
        }
        return check;
    }

    public int octet(int k) {
        return k < 0 || k >= writtenLength ? NONE : written[k];
    }

    public boolean on() {
        int length = takeTape();
        if (!wiring.told || !isImage(length)) {
            return refuses(BY_SIGHT);
        }
        int at = 0;
        for (int b = 0; b < wiring.bridges; b++) {
            now.bridges[b].on = tape[at] == 1;
            now.bridges[b].prio = tape[at + 1];
            now.bridges[b].old = tape[at + 2] == 1;
            at += 3;
        }
        for (int link = 0; link < wiring.links; link++) {
            now.whole[link] = tape[at] == 1;
            at++;
        }
        for (int host = 0; host < wiring.hosts; host++) {
            now.home[host] = tape[at];
            at++;
        }
        now.begin();
        pastCount = 0;
        return true;
    }

    private boolean isImage(int length) {
        int hostsAt = 3 * wiring.bridges + wiring.links;
        int checkAt = hostsAt + wiring.hosts;
        if (length != checkAt + 1 || tape[checkAt] != checkOf(tape, checkAt)) {
            return false;
        }
        for (int k = 0; k < checkAt; k++) {
            int limit = k >= hostsAt ? wiring.bridges : 2;
            if (k < 3 * wiring.bridges && k % 3 == 1) {
                limit = PRIOS;
            }
            if (tape[k] >= limit) {
                return false;
            }
        }
        return true;
    }

    public int status(int what) {
        return what < 0 || what >= REFUSED_KINDS ? NONE : refused[what];
    }
}

import java.util.ArrayList;
import java.util.List;

/**
 * The tape and the text of a net: each boundary that 'Terms' I and promises 2 to 5 name, at the last value that is
 * allowed and at the first that is not.
 */
public final class WaveBridgesTexts {
    private static final int NONE = WaveBridges.NONE;
    private static final int MIN = Integer.MIN_VALUE;
    private static final int MAX = Integer.MAX_VALUE;
    private static final String NET = "net age 6 delay 2;";
    private static final String ONE = NET + "bridge a prio 1;";
    private static final String TWO = ONE + "bridge b prio 0;";
    private static final String[] OWN_WORDS = {"net", "age", "delay", "bridge", "prio", "old", "link", "edge", "to", "cost",
        "takes", "host", "at"};
    private static int wrong = 0;
    private static int promise = 0;

    private static void due(String call, long got, long want) {
        if (got != want) {
            wrong++;
            System.out.println("promise " + promise + ": " + call + " answered " + got + ", due is " + want);
        }
    }
    private static void due(String call, boolean got, boolean want) { due(call, got ? 1 : 0, want ? 1 : 0); }

    private static void put(WaveBridges x, String text) {
        for (int at = 0; at < text.length(); at += 20) {
            int[] v = new int[5];
            for (int k = 0; k < 20; k++) v[k / 4] = v[k / 4] << 8 | (at + k < text.length() ? text.charAt(at + k) & 255 : ' ');
            x.feed(v[0], v[1], v[2], v[3], v[4]);
        }
        x.end(text.length());
    }

    private static String shown(String text) {
        return "'" + (text.length() > 90 ? ".." + text.substring(text.length() - 90) : text).replace("\n", "\\n") + "'";
    }
    private static void fine(String text, int statements) {
        WaveBridges x = new WaveBridges();
        put(x, text);
        due("net() of " + shown(text), x.net(), statements);
        due("fault(0) of " + shown(text), x.fault(0), 0);
        due("fault(1) of " + shown(text), x.fault(1), NONE);
        due("status(1) of " + shown(text), x.status(1), 0);
    }
    private static void faulty(String text, int fault, int place) {
        WaveBridges x = new WaveBridges();
        put(x, text);
        due("net() of " + shown(text), x.net(), NONE);
        due("fault(0) of " + shown(text), x.fault(0), fault);
        due("fault(1) of " + shown(text), x.fault(1), place);
        due("status(1) of " + shown(text), x.status(1), 1);
        due("has(0) of " + shown(text), x.has(0), 0);
    }
    /** The text around a number, with the least and the greatest that can be, and those next to them. */
    private static void number(String ahead, int least, int most, String behind, int statements) {
        fine(ahead + least + behind, statements);
        fine(ahead + most + behind, statements);
        fine(ahead + String.format("%03d", least) + behind, statements);
        if (least > 0) faulty(ahead + (least - 1) + behind, 2, ahead.length());
        faulty(ahead + (most + 1) + behind, 2, ahead.length());
        faulty(ahead + "999" + behind, 2, ahead.length());
        faulty(ahead + "0" + String.format("%03d", least) + behind, 1, ahead.length() + 3);
        faulty(ahead + "9999" + behind, 1, ahead.length() + 3);
        faulty(ahead + "99999" + behind, 1, ahead.length() + 3);
        faulty(ahead + "-" + least + behind, 1, ahead.length());
        faulty(ahead + behind, 1, ahead.length() + (behind.startsWith(" ") ? 1 : 0));
        faulty(ahead, 1, ahead.length());
    }

    // ---- the tape

    private static void feed() {
        promise = 2;
        WaveBridges x = new WaveBridges();
        for (int k = 1; k <= 79; k++) due("feed " + k, x.feed(0, 0, 0, 0, 0), 20 * k);
        due("feed to 1600, not more", x.feed(0, 0, 0, 0, 0), 1600);
        due("feed beyond 1600", x.feed(0, 0, 0, 0, 0), NONE);
        due("status(0)", x.status(0), 1);
        due("end(1600): what was refused left the tape", x.end(1600), true);
        for (int n : new int[] {1599, 1590, 1581}) {
            due("end(" + n + ")", x.end(n), true);
            due("feed behind " + n, x.feed(0, 0, 0, 0, 0), NONE);
        }
        due("status(0)", x.status(0), 4);
        due("end(1580)", x.end(1580), true);
        due("feed behind 1580", x.feed(0, 0, 0, 0, 0), 1600);
        due("status(0)", x.status(0), 4);
        due("status(1)", x.status(1), 0);

        // The bytes of a refused feed() are not on the tape, those ahead of it are.
        StringBuilder full = new StringBuilder(NET);
        while (full.length() < 1600) full.append(' ');
        WaveBridges y = new WaveBridges();
        put(y, full.toString());
        due("feed beyond 1600", y.feed(0x78787878, 0x78787878, 0x78787878, 0x78787878, 0x78787878), NONE);
        due("net() of 1600 bytes", y.net(), 1);
        due("feed behind net()", y.feed(0, 0, 0, 0, 0), 20);

        // Of each number the highest byte first; a number below 0 has bytes above 127.
        WaveBridges z = new WaveBridges();
        due("feed", z.feed(0x6e657420, 0x61676520, 0x362020ff, 0, 0), 20);
        due("net()", z.net(), NONE);
        due("fault(1): the byte 255", z.fault(1), 11);
        due("feed", z.feed(0x6e657420, 0x61676520, -1, MIN, MAX), 20);
        due("net()", z.net(), NONE);
        due("fault(1): the byte 255", z.fault(1), 8);
        int[][] bytes = {{MIN, 0, 0, 0, 0}, {0, 0, 0, 0, 255}};
        for (int[] b : bytes) {
            due("feed", z.feed(b[0], b[1], b[2], b[3], b[4]), 20);
            due("net()", z.net(), NONE);
            due("fault(1)", z.fault(1), 0);
        }
        due("a 20th byte that is read last", z.feed(0x0a0a0a0a, 0x20202020, 0x20202020, 0x20202020, 0x20202078), 20);
        due("net()", z.net(), NONE);
        due("fault(1)", z.fault(1), 19);
    }

    private static void end() {
        promise = 3;
        WaveBridges x = new WaveBridges();
        due("end(0) of no tape", x.end(0), true);
        due("end(1) of no tape", x.end(1), false);
        due("end(-1) of no tape", x.end(-1), false);
        due("status(0)", x.status(0), 2);
        due("feed", x.feed(1, 2, 3, 4, 5), 20);
        for (int n : new int[] {21, MAX, -1, -2, MIN}) {
            due("end(" + n + ") of 20", x.end(n), false);
        }
        due("status(0)", x.status(0), 7);
        due("the tape is as it was", x.feed(1, 2, 3, 4, 5), 40);
        due("end(40) of 40", x.end(40), true);
        due("end(39)", x.end(39), true);
        due("end(40) of 39", x.end(40), false);
        due("end(0)", x.end(0), true);
        due("end(1) of 0", x.end(1), false);
        due("feed", x.feed(1, 2, 3, 4, 5), 20);
        due("status(0)", x.status(0), 9);

        // The first n bytes, and those that come behind them.
        WaveBridges y = new WaveBridges();
        put(y, "net age 6 delay 2;xxxxxxxx");
        due("end(26)", y.end(26), true);
        due("end(27)", y.end(27), false);
        due("end(18)", y.end(18), true);
        put2(y, "bridge a prio 1;    ");
        due("net()", y.net(), 2);
        // What is gone by end() does not come back.
        put(y, NET);
        y.end(0);
        due("net() of an emptied tape", y.net(), NONE);
        due("fault(1)", y.fault(1), 0);
    }
    private static void put2(WaveBridges x, String twenty) {
        int[] v = new int[5];
        for (int k = 0; k < 20; k++) v[k / 4] = v[k / 4] << 8 | twenty.charAt(k);
        x.feed(v[0], v[1], v[2], v[3], v[4]);
    }

    // ---- how much a net may hold

    private static String bridges(int n) {
        StringBuilder t = new StringBuilder(NET);
        for (int k = 0; k < n; k++) t.append("bridge ").append((char) ('a' + k)).append(" prio 1;");
        return t.toString();
    }
    /** Links among eight bridges, no bridge with more than four ports of the first fourteen. */
    private static String links(int n) {
        StringBuilder t = new StringBuilder(bridges(8));
        for (int k = 0; k < n; k++) {
            t.append("link ").append((char) ('a' + k % 8)).append(" to ").append((char) ('a' + (k + 1 + k / 8) % 8)).append(" cost 1 takes 1;");
        }
        return t.toString();
    }
    private static String hosts(String ahead, int n) {
        StringBuilder t = new StringBuilder(ahead);
        for (int k = 0; k < n; k++) t.append("host h").append((char) ('a' + k)).append(" at a;");
        return t.toString();
    }

    private static void net() {
        promise = 4;
        fine(NET, 1);
        fine(hosts(links(14), 8), 31);
        due("the fullest text", hosts(links(14), 8).length() <= 1600, true);
        // One without a STATEMENT has FAULT 1 at its length.
        faulty("", 1, 0);
        faulty(" ", 1, 1);
        faulty("\n\n \n", 1, 4);
        StringBuilder blanks = new StringBuilder();
        while (blanks.length() < 1600) blanks.append(' ');
        faulty(blanks.toString(), 1, 1600);
        // The first and the last byte of a full tape count.
        fine(blanks.substring(0, 1600 - NET.length()) + NET, 1);
        faulty(NET + blanks.substring(0, 1599 - NET.length()) + "x", 1, 1599);
        faulty(blanks.substring(0, 1599) + ";", 1, 1599);
        // With or without a FAULT the tape goes.
        WaveBridges x = new WaveBridges();
        put(x, NET + "x");
        due("net()", x.net(), NONE);
        due("end(1)", x.end(1), false);
        due("net() of no tape", x.net(), NONE);
        due("fault(1)", x.fault(1), 0);
        due("status(1)", x.status(1), 2);
        put(x, NET);
        due("net()", x.net(), 1);
        due("end(1)", x.end(1), false);
        due("net() of no tape", x.net(), NONE);
        due("status(1)", x.status(1), 3);
        due("a net stays", x.run(1), 1);
    }

    private static void statements() {
        promise = 5;
        // net: the first STATEMENT, and it alone.
        faulty("bridge a prio 1;" + NET, 1, 0);
        faulty("link", 1, 0);
        faulty("host", 1, 0);
        faulty(NET + NET, 1, NET.length());
        faulty(ONE + NET, 1, ONE.length());
        faulty(NET + "age 6", 1, NET.length());
        faulty(NET + "a", 1, NET.length());
        faulty(NET + "7", 1, NET.length());
        faulty(NET + ";", 1, NET.length());
        faulty(NET + " ; ", 1, NET.length() + 1);
        number("net age ", 2, 20, " delay 1;", 1);
        number("net age 2 delay ", 1, 9, ";", 1);
        number(NET + "bridge a prio ", 0, 15, ";", 2);
        number(NET + "bridge a prio ", 0, 15, " old;", 2);
        number(ONE + "link a to a cost ", 1, 200, " takes 1;", 3);
        number(ONE + "link a to a cost 1 takes ", 1, 3, ";", 3);
        // old and edge may stand once, or not.
        fine(ONE + "link a to a cost 1 takes 1;", 3);
        fine(ONE + "link a edge to a cost 1 takes 1;", 3);
        fine(ONE + "link a to a edge cost 1 takes 1;", 3);
        fine(ONE + "link a edge to a edge cost 1 takes 1;", 3);
        faulty(ONE + "link a edge edge to a cost 1 takes 1;", 1, ONE.length() + 12);
        faulty(ONE + "link a to a edge edge cost 1 takes 1;", 1, ONE.length() + 17);
        faulty(ONE + "link edge a to a cost 1 takes 1;", 1, ONE.length() + 5);
        faulty(NET + "bridge a prio 1 old old;", 1, NET.length() + 20);
        faulty(NET + "bridge a old prio 1;", 1, NET.length() + 9);
        faulty(NET + "bridge a prio 1 edge;", 1, NET.length() + 16);
        faulty(NET + "bridge a prio 1 2;", 1, NET.length() + 16);
        faulty(ONE + "host h at a a;", 1, ONE.length() + 12);
        faulty(ONE + "host h at a edge;", 1, ONE.length() + 12);
        // Nothing may be left out.
        String[] parts = {"net;", "net age;", "net age 6;", "net age 6 delay;", "bridge;", "bridge b;", "bridge b prio;", "link;", "link a;",
            "link a to;", "link a to a;", "link a to a cost;", "link a to a cost 1;", "link a to a cost 1 takes;", "host;", "host h;", "host h at;"};
        for (String part : parts) {
            String ahead = part.startsWith("net") ? "" : ONE;
            faulty(ahead + part, 1, ahead.length() + part.length() - 1);
        }
    }

    private static void tooMany() {
        promise = 5;
        fine(bridges(8), 9);
        int at = bridges(8).length();
        faulty(bridges(8) + "bridge i prio 1;", 5, at);
        faulty(bridges(8) + "bridge", 5, at);
        faulty(bridges(8) + "\n bridge a", 5, at + 2);
        faulty(bridges(8) + "bridge;", 5, at);
        faulty(bridges(8) + "bridg", 1, at);
        faulty(bridges(8) + "bridgei", 1, at);
        fine(links(14), 23);
        at = links(14).length();
        faulty(links(14) + "link a to b cost 1 takes 1;", 5, at);
        faulty(links(14) + "link", 5, at);
        faulty(links(14) + "link;", 5, at);
        faulty(links(14) + "bridge i", 5, at);
        faulty(links(14) + "lin", 1, at);
        fine(hosts(ONE, 8), 10);
        at = hosts(ONE, 8).length();
        faulty(hosts(ONE, 8) + "host hi at a;", 5, at);
        faulty(hosts(ONE, 8) + "host", 5, at);
        faulty(hosts(ONE, 8) + "host;", 5, at);
        faulty(hosts(ONE, 8) + "hosts", 1, at);
        // A 7th PORT is told at the NAME of its BRIDGE: as the first end, as the second one, of a link to itself.
        String self = "link a to a cost 1 takes 1;";
        String there = "link b to a cost 1 takes 1;";
        fine(TWO + self + self + self, 6);
        at = TWO.length() + 81;
        faulty(TWO + self + self + self + "link a to b cost 1 takes 1;", 5, at + 5);
        faulty(TWO + self + self + self + "link b to a cost 1 takes 1;", 5, at + 10);
        faulty(TWO + self + self + self + "link a", 5, at + 5);
        faulty(TWO + self + self + self + "link b to a", 5, at + 10);
        faulty(TWO + self + self + self + "link b edge to\na ", 5, at + 15);
        fine(TWO + self + self + there + there, 7);
        faulty(TWO + self + self + there + self, 5, at + 10);
        faulty(TWO + self + self + there + there + self, 5, TWO.length() + 108 + 5);
        fine(TWO + there + there + there + there + there + there, 9);
        faulty(TWO + there + there + there + there + there + there + there, 5, TWO.length() + 6 * 27 + 5);
    }

    // ---- names, numbers, blanks

    private static void names() {
        promise = 5;
        fine(NET + "bridge a prio 1;", 2);
        fine(NET + "bridge abcdef prio 1;", 2);
        fine(NET + "bridge zzzzzz prio 1;", 2);
        int at = NET.length() + 7;
        faulty(NET + "bridge abcdefg prio 1;", 1, at + 6);
        faulty(NET + "bridge abcdefgh", 1, at + 6);
        faulty(NET + "bridge bridges prio 1;", 1, at + 6);
        faulty(NET + "bridge prio 1;", 1, at);
        faulty(NET + "bridge 1 prio 1;", 1, at);
        faulty(NET + "bridge ; prio 1;", 1, at);
        faulty(NET + "bridge a_ prio 1;", 1, at + 1);
        faulty(NET + "bridge a1 prio 1;", 1, at + 1);
        faulty(NET + "bridge a b prio 1;", 1, at + 2);
        for (char c : new char[] {'`', '{', '@', '[', 0, 9, 13, 127, 128, 160, 225, 255}) faulty(NET + "bridge " + c + " prio 1;", 1, at);
        String two = ONE + "link abcdefg";
        faulty(two, 1, two.length() - 1);
        faulty(ONE + "link a to abcdefg", 1, ONE.length() + 16);
        faulty(ONE + "host abcdefg", 1, ONE.length() + 11);
        faulty(ONE + "host h at abcdefg", 1, ONE.length() + 16);
        for (String own : OWN_WORDS) {
            // Where a NAME is asked, an OWN WORD is a fault at its first byte, but longer and shorter words are none.
            faulty(NET + "bridge " + own + " prio 1;", 1, at);
            faulty(ONE + "link " + own + " to a cost 1 takes 1;", 1, ONE.length() + 5);
            faulty(ONE + "link a to " + own + " cost 1 takes 1;", 1, ONE.length() + 10);
            faulty(ONE + "host " + own + " at a;", 1, ONE.length() + 5);
            faulty(ONE + "host h at " + own + ";", 1, ONE.length() + 10);
            String longer = own.equals("bridge") ? "bridgf" : own + "x";
            fine(NET + "bridge " + longer + " prio 1;host x" + own.charAt(0) + " at " + longer + ";", 3);
            fine(NET + "bridge " + own.substring(1) + "x prio 1;", 2);
        }
        // All unlike: of bridges, of hosts, of both.
        faulty(ONE + "bridge a prio 2;", 3, ONE.length() + 7);
        faulty(ONE + "host a at a;", 3, ONE.length() + 5);
        faulty(ONE + "host h at a;host h at a;", 3, ONE.length() + 17);
        faulty(ONE + "host h at a;bridge h prio 1;", 3, ONE.length() + 19);
        faulty(ONE + "bridge a", 3, ONE.length() + 7);
        faulty(ONE + "host h at a;host h", 3, ONE.length() + 17);
        fine(ONE + "bridge aa prio 1;host aaa at aa;host aaaaaa at a;host aaaaab at a;", 6);
        fine(NET + "bridge abcdef prio 1;bridge abcdeg prio 1;bridge bbcdef prio 1;", 4);
        faulty(NET + "bridge abcdef prio 1;bridge abcdef prio 1;", 3, NET.length() + 28);
        // A NAME of a BRIDGE told ahead.
        faulty(ONE + "link b to a cost 1 takes 1;bridge b prio 1;", 3, ONE.length() + 5);
        faulty(ONE + "link a to b cost 1 takes 1;bridge b prio 1;", 3, ONE.length() + 10);
        faulty(ONE + "host h at b;bridge b prio 1;", 3, ONE.length() + 10);
        faulty(ONE + "host h at h;", 3, ONE.length() + 10);
        faulty(ONE + "host h at a;link h to a cost 1 takes 1;", 3, ONE.length() + 17);
        faulty(ONE + "host h at a;link a to h cost 1 takes 1;", 3, ONE.length() + 22);
        faulty(ONE + "host h at a;host g at h;", 3, ONE.length() + 22);
        faulty(ONE + "host h at aa;", 3, ONE.length() + 10);
        fine(NET + "bridge a prio 1;host h at a;bridge b prio 1;link b to a cost 1 takes 1;", 5);
    }

    private static void blanks() {
        promise = 5;
        fine("net age 6 delay 2 ; bridge a prio 1 old ; host h at a ; link a edge to a edge cost 1 takes 1 ; ", 4);
        fine("\nnet\nage\n6\ndelay\n2\n;\nbridge\na\nprio\n1\nold\n;\n", 2);
        fine("  \n net  age \n 6  delay  2  ;bridge  a  prio  1  ;\n\n", 2);
        for (char c : new char[] {0, 9, 11, 13, 31, 33, 160}) {
            faulty("net" + c + "age 6 delay 2;", 1, 3);
            faulty(c + NET, 1, 0);
            faulty(NET + c, 1, NET.length());
            faulty("net age 6 delay 2" + c + ";", 1, 17);
        }
        // Words and numbers side by side need one.
        faulty("netage 6 delay 2;", 1, 0);
        faulty("net age6 delay 2;", 1, 7);
        faulty("net age 6delay 2;", 1, 9);
        faulty("net age 6 delay2;", 1, 15);
        faulty(NET + "bridgea prio 1;", 1, NET.length());
        faulty(NET + "bridge aprio 1;", 1, NET.length() + 13);
        faulty(NET + "bridge a prio1;", 1, NET.length() + 13);
        faulty(NET + "bridge a prio 1old;", 1, NET.length() + 15);
        faulty(ONE + "linka to a cost 1 takes 1;", 1, ONE.length());
        faulty(ONE + "link a toa cost 1 takes 1;", 1, ONE.length() + 7);
        faulty(ONE + "link a to a cost1 takes 1;", 1, ONE.length() + 16);
        faulty(ONE + "link a to a cost 1takes 1;", 1, ONE.length() + 18);
        faulty(ONE + "link a to a cost 1 takes1;", 1, ONE.length() + 24);
        faulty(ONE + "host h ata;", 1, ONE.length() + 7);
        faulty("net age 1 0 delay 2;", 2, 8);
        faulty("net age 2 0 delay 2;", 1, 10);
        faulty("net age 20 delay 2;bri dge a prio 1;", 1, 19);
    }

    /** A text that ends too soon has its FAULT at its length; one that ends in a word, at that word. */
    private static void tooShort() {
        promise = 5;
        String[] words = {"net", " age", " 6", " delay", " 2", ";", "bridge", " a", " prio", " 1", " old", ";", "link", " a", " edge",
            " to", " a", " edge", " cost", " 20", " takes", " 3", ";", "host", " hh", " at", " a", ";"};
        StringBuilder t = new StringBuilder();
        for (int k = 0; k < words.length; k++) {
            String word = words[k];
            int from = t.length() + (word.charAt(0) == ' ' ? 1 : 0);
            boolean own = List.of(OWN_WORDS).contains(word.trim());
            for (int n = t.length() + 1; n < t.length() + word.length(); n++) {
                String part = t + word.substring(0, n - t.length());
                // A part of an OWN WORD is no such word; a part of a NAME or number is one.
                boolean inWord = own && n > from;
                if (!part.trim().endsWith(";")) faulty(part, 1, inWord ? from : n);
            }
            t.append(word);
            if (!word.equals(";")) {
                faulty(t.toString(), 1, t.length());
                faulty(t + " \n", 1, t.length() + 2);
            }
        }
        fine(t.toString(), 4);
    }

    /** What lies on the tape behind its end belongs to no text: FAULT 1 at the text's length, if it ends too soon. */
    private static void behindTheEnd() {
        promise = 5;
        endsAt(NET, 17, 17);
        endsAt(NET, 16, 16);
        endsAt("net age 20 delay 2;", 9, 9);
        endsAt(ONE + "link a to a cost 2000 takes 1;", 54, 54);
        endsAt(NET + "bridgex prio 1;", 24, 24);
        endsAt(NET + "bridge abcdefgh prio 1;", 31, 31);
        endsAt(NET + "bridge a prio 15 old;", 33, 33);
        endsAt(NET + "bridge a prio 15 old;", 34, 34);
        endsAt(NET + "bridge a prio 1 old;", 37, 37);
        endsAt(NET + "bridge a prio 1 old;", 36, 34);
        endsAt(ONE + "host ata at a;", 41, 39);
        endsAt(ONE + "host h at a;", 45, 45);
        promise = 3;
        WaveBridges x = new WaveBridges();
        put(x, NET + "bridge a prio 1;bridge a prio 1;");
        due("end(34)", x.end(34), true);
        due("net() of the first two", x.net(), 2);
        put(x, NET + "bridge aa prio 15 ;");
        due("end(35)", x.end(35), true);
        due("net() without ';'", x.net(), NONE);
        due("fault(1)", x.fault(1), 35);
        due("a net stays", x.bridge(0, 0), 16);
    }
    private static void endsAt(String text, int length, int place) {
        WaveBridges x = new WaveBridges();
        put(x, text);
        due("end(" + length + ") of " + shown(text), x.end(length), true);
        due("net() of " + length + " of " + shown(text), x.net(), NONE);
        due("fault(0) of " + length + " of " + shown(text), x.fault(0), 1);
        due("fault(1) of " + length + " of " + shown(text), x.fault(1), place);
    }

    /** Of several faults the first along the text is told. */
    private static void first() {
        promise = 5;
        faulty("net age 1 delay 0;x", 2, 8);
        faulty("net age 2 delay 0;x", 2, 16);
        faulty("net age 2 x 0;", 1, 10);
        faulty(ONE + "bridge a prio 99;", 3, ONE.length() + 7);
        faulty(ONE + "bridge b prio 99;bridge a", 2, ONE.length() + 14);
        faulty(ONE + "link b to c cost 0 takes 0;", 3, ONE.length() + 5);
        faulty(ONE + "link a to c cost 0 takes 0;", 3, ONE.length() + 10);
        faulty(ONE + "link a to a cost 0 takes 0;", 2, ONE.length() + 17);
        faulty(ONE + "link a to a cost 1 takes 0;x", 2, ONE.length() + 25);
        faulty(bridges(8) + "bridge a prio 99;", 5, bridges(8).length());
        faulty(hosts(ONE, 8) + "host a at b;", 5, hosts(ONE, 8).length());
        faulty(links(14) + "link x to y cost 0 takes 0;", 5, links(14).length());
        // A number of four digits is told at the 4th one, whatever those ahead are.
        faulty("net age 0001 delay 1;", 1, 11);
        // A NAME of seven letters is told at the 7th one, whatever those ahead are.
        faulty(NET + "bridge abcdef prio 1;bridge abcdefg prio 1;", 1, NET.length() + 34);
    }

    private static void fault() {
        promise = 5;
        WaveBridges x = new WaveBridges();
        due("fault(0) ahead of any", x.fault(0), 0);
        due("fault(1) ahead of any", x.fault(1), NONE);
        put(x, NET + "?");
        due("fault(0) ahead of any, with a tape", x.fault(0), 0);
        x.net();
        due("fault(0)", x.fault(0), 1);
        due("fault(1)", x.fault(1), NET.length());
        for (int what : new int[] {2, 3, 5, 6, MAX, -1, -2, MIN}) due("fault(" + what + ")", x.fault(what), NONE);
        // Only net() tells another one.
        x.run(1);
        x.see(0);
        x.on();
        x.end(1);
        due("fault(0) stays", x.fault(0), 1);
        due("fault(1) stays", x.fault(1), NET.length());
        put(x, NET);
        due("fault(0) stays", x.fault(0), 1);
        x.net();
        due("fault(0) without", x.fault(0), 0);
        due("fault(1) without", x.fault(1), NONE);
        for (int what : new int[] {2, MAX, -1, MIN}) due("fault(" + what + ")", x.fault(what), NONE);
        x.net();
        due("fault(0) of no text", x.fault(0), 1);
        due("fault(1) of no text", x.fault(1), 0);
    }

    /** Ports are numbered as told, the first end ahead of the second one; all else from 0 on as told. */
    private static void numbers() {
        promise = 8;
        WaveBridges x = new WaveBridges();
        put(x, TWO + "link b to a cost 7 takes 3;link a to a cost 200 takes 1;link b to b cost 1 takes 2;");
        x.net();
        List<int[]> want = new ArrayList<>();
        want.add(new int[] {1, 0, 0, 0, 7, 3, 1, 0});
        want.add(new int[] {0, 1, 0, 2, 200, 1, 1, 0});
        want.add(new int[] {1, 1, 1, 2, 1, 2, 1, 0});
        for (int l = 0; l < 3; l++) {
            for (int k = 0; k < 8; k++) due("link(" + l + ", " + k + ")", x.link(l, k), want.get(l)[k]);
        }
        due("bridge(0, 1)", x.bridge(0, 1), 3);
        due("bridge(1, 1)", x.bridge(1, 1), 3);
    }

    public static void main(String[] args) {
        feed();
        end();
        net();
        statements();
        tooMany();
        names();
        blanks();
        tooShort();
        behindTheEnd();
        first();
        fault();
        numbers();
        System.out.println(wrong == 0 ? "all answers are as due" : wrong + " answers are not as due");
        if (wrong != 0) System.exit(1);
    }
}

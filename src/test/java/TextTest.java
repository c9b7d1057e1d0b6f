/** Promises 9 and 10: THE TEXT and the set-up that is read from it. */
public final class TextTest {
    public static void main(String[] args) {
        promise9();
        clausesAreDone();
        refusedOnesAreNot();
        faults();
        countOfClauses();
        Due.end("TextTest");
    }

    private static void promise9() {
        Mind m = new Mind();
        Due.is("feed(-1)", m.feed(-1), ReservoirMind.BAD);
        Due.is("feed(128)", m.feed(128), ReservoirMind.BAD);
        Due.is("feed(MIN)", m.feed(Integer.MIN_VALUE), ReservoirMind.BAD);
        Due.is("count(4)", m.count(4), 0);
        Due.is("feed(0)", m.feed(0), 1);
        Due.is("feed(127)", m.feed(127), 2);
        for (int k = 3; k <= 100; k++) {
            Due.is("feed", m.feed('c'), k);
        }
        Due.is("a 101st", m.feed('c'), ReservoirMind.FULL);
        Due.is("BAD ahead of FULL", m.feed(128), ReservoirMind.BAD);
        Due.is("count(4)", m.count(4), 100);
        Due.is("the first sign is the fault", m.read(), -10);
        Due.is("empty then", m.count(4), 0);
    }

    private static void clausesAreDone() {
        Mind m = new Mind();
        Due.is("read", Due.read(m, "d41399.11.0;q11.987;p2090;e0.9;f05.7;c12"), 6);
        Due.is("empty then", m.count(4), 0);
        int[] demand = {4, 1, 3, 99, 11, 0};
        for (int what = 0; what < 6; what++) {
            Due.is("demandOf(0, " + what + ")", m.demandOf(0, what), demand[what]);
        }
        Due.is("INFLOW", m.monthOf(11, 0), 9);
        Due.is("INFLOW", m.monthOf(11, 1), 8);
        Due.is("INFLOW", m.monthOf(11, 2), 7);
        Due.is("PARTS", m.partOf(2, 0), 0);
        Due.is("PARTS", m.partOf(2, 1), 9);
        Due.is("PARTS", m.partOf(2, 2), 0);
        Due.is("DRIES", m.monthOf(0, 3), 9);
        Due.is("FLOOD", m.monthOf(5, 4), 7);
        Due.is("CAP", m.told(0), 12);
        Due.is("one-digit numbers", Due.read(m, "d0015.0.9;c3"), 2);
        Due.is("WORTH", m.demandOf(1, 3), 5);
        Due.is("TO", m.demandOf(1, 5), 9);
        Due.is("CAP", m.told(0), 3);
        Due.is("PARTS by way of all 0", Due.read(m, "p2001"), 1);
        Due.is("PARTS", m.partOf(2, 3), 1);
        Due.is("PARTS that even out", Due.read(m, "p0121;p1112;p2011"), 3);
        Due.is("INFLOWS of 0 and on", Due.read(m, "q1.000;q1.123;q0.011"), 3);
        Due.is("INFLOW", m.monthOf(1, 2), 3);
        Due.is("one behind the other", Due.read(m, "c4;c05;c1"), 3);
        Due.is("the last stands", m.told(0), 1);
    }

    private static void refusedOnesAreNot() {
        Mind m = new Mind();
        Due.is("c", Due.read(m, "c0;c13;c99;c00"), 0);
        Due.is("CAP", m.told(0), 8);
        Due.is("p", Due.read(m, "p0000;p3111;p9123"), 0);
        Due.is("PARTS", m.partOf(0, 3), 3);
        Due.is("q, e, f", Due.read(m, "q12.111;e12.1;f99.1"), 0);
        Due.is("d", Due.read(m, "d5111.0.0;d0101.0.0;d0111.12.0;d0111.0.12"), 0);
        Due.is("none", m.told(4), 0);
        Due.is("d", Due.read(m, "d0111.0.0"), 1);
        Due.is("d up to six", Due.read(m, "d0111.0.0;d0111.0.0;d0111.0.0;d0111.0.0;d0111.0.0;d0111.0.0;c2"), 6);
        Due.is("six", m.told(4), 6);
        Due.is("those behind a refused one are done", m.told(0), 2);
    }

    private static void faults() {
        Mind m = new Mind();
        Due.is("nothing", m.read(), -10);
        String[] texts = {"x", "d", "D0111.0.0", "d0a", "d01111111", "d0111.", "d0111..", "d0111.123", "d0111.1.",
            "d0111.1.123", "q", "q.", "q1", "q1.", "q1.1", "q1.11", "q1.11;", "q1.1111", "q123", "p", "p000", "p00000",
            "e1", "e1.", "e1.12", "f1.1.", "c", "c;", "c123", "c1;", "c1;;", ";", "c1 ", " c1", "c1;x", "c1;c", "c-1"};
        int[] faults = {0, 1, 0, 2, 6, 6, 6, 8, 8,
            10, 1, 1, 2, 3, 4, 5, 5, 6, 3, 1, 4, 5,
            2, 3, 4, 4, 1, 1, 3, 3, 3, 0, 2, 0, 3, 4, 1};
        for (int k = 0; k < texts.length; k++) {
            m = new Mind();
            Due.is("read of " + texts[k], Due.read(m, texts[k]), -10 - faults[k]);
            Due.is("the text is empty then", m.count(4), 0);
        }
        m = new Mind();
        Due.is("nothing is done of a text with a fault", Due.read(m, "c3;q1.111;c"), -20 - 1);
        Due.is("CAP", m.told(0), 8);
        Due.is("INFLOW", m.monthOf(1, 2), 4);
        StringBuilder full = new StringBuilder("c1;");
        while (full.length() < 99) {
            full.append("d01111.11.11;");
        }
        full.setLength(100);
        Due.is("the end of a full text", Due.read(new Mind(), full.toString()), -110);
    }

    private static void countOfClauses() {
        Mind m = new Mind();
        Due.is("twelve", Due.read(m, "c1;c2;c3;c4;c5;c6;c7;c8;c9;c10;c11;c12"), 12);
        Due.is("CAP", m.told(0), 12);
        Due.is("the ; behind the twelfth", Due.read(m, "c1;c1;c1;c1;c1;c1;c1;c1;c1;c1;c1;c1;"), -10 - 35);
        Due.is("a digit behind it is none", Due.read(m, "c1;c1;c1;c1;c1;c1;c1;c1;c1;c1;c1;c10;c1"), -10 - 36);
    }
}

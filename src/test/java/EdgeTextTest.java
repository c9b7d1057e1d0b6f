import java.util.ArrayList;
import java.util.List;

/** The bounds of promise 10, and of the Term of ==== 2 on THE TEXT: CLAUSES sign by sign, their numbers, the FAULT. */
public final class EdgeTextTest {
    private static final String D = "0123456789", LETTERS = "dqpefc";
    private static final Edge.Scene NEW = Scenes.NEW, LIVED = Scenes.LIVED;
    private static final String TWELVE = "c1;c1;c1;c1;c1;c1;c1;c1;c1;c1;c1;c1";

    /**
     * How a set-up may begin; signs by which it may go on and is none yet; signs by which it may go on and is one. A
     * set-up begins with none of the others behind that.
     */
    private static final String[][] GOES_ON = {
        {"", LETTERS, ""},
        {"d", D, ""}, {"d9", D, ""}, {"d01", D, ""}, {"d012", D, ""}, {"d0123", D + ".", ""}, {"d01299", ".", ""},
        {"d0123.", D, ""}, {"d01299.", D, ""}, {"d0123.1", D + ".", ""}, {"d0123.11", ".", ""}, {"d0123.99", ".", ""},
        {"d0123.1.", "", D}, {"d0123.11.", "", D}, {"d0123.1.2", ";", D}, {"d0123.1.11", ";", ""},
        {"d0123.1.99", ";", ""}, {"d01299.11.11", ";", ""},
        {"q", D, ""}, {"q1", D + ".", ""}, {"q11", ".", ""}, {"q99", ".", ""}, {"q1.", D, ""}, {"q11.", D, ""},
        {"q1.2", D, ""}, {"q1.23", "", D}, {"q1.234", ";", ""}, {"q11.999", ";", ""},
        {"p", D, ""}, {"p0", D, ""}, {"p9", D, ""}, {"p01", D, ""}, {"p012", "", D}, {"p0123", ";", ""},
        {"p0000", ";", ""},
        {"e", D, ""}, {"e1", D + ".", ""}, {"e11", ".", ""}, {"e1.", "", D}, {"e11.", "", D}, {"e1.2", ";", ""},
        {"f", D, ""}, {"f1", D + ".", ""}, {"f11", ".", ""}, {"f1.", "", D}, {"f11.", "", D}, {"f11.2", ";", ""},
        {"c", "", D}, {"c1", ";", D}, {"c0", ";", D}, {"c12", ";", ""}, {"c99", ";", ""},
        {"c1;", LETTERS, ""}, {"d0123.1.2;", LETTERS, ""}, {"q1.234;", LETTERS, ""}, {"p0123;", LETTERS, ""},
        {"e1.2;", LETTERS, ""}, {"f1.2;", LETTERS, ""}, {"c1;c1;c1;c1;c1;c1;c1;c1;c1;c1;c1;", LETTERS, ""},
        {"c1;c1;c1;c1;c1;c1;c1;c1;c1;c1;c1", ";", D}, {"c1;c1;c1;c1;c1;c1;c1;c1;c1;c1;c1;c", "", D}, {TWELVE, "", D},
        {TWELVE + "2", "", ""}, {"p0111;p0111;p0111;p0111;p0111;p0111;p0111;p0111;p0111;p0111;p0111;p0111", "", ""}};

    public static void main(String[] args) {
        signBySign();
        itEndsTooEarly();
        theFirstFaultStands();
        nothingIsDoneWithAFault();
        clausesOneToTwelve();
        aHundredSigns();
        demands();
        demandsUpToSix();
        inflows();
        parts();
        dries();
        floods();
        caps();
        oneBehindTheOther();
        itIsEmptyThen();
        Due.end("EdgeTextTest");
    }

    private static Mind fed(String text) {
        Mind m = new Mind();
        Scenes.text(m, text);
        return m;
    }

    private static int fault(int place) {
        return -10 - place;
    }

    private static void signBySign() {
        for (String[] row : GOES_ON) {
            String begun = row[0];
            for (int k = 0; k < 128; k++) {
                char sign = (char) k;
                int got = fed(begun + sign).read();
                String place = "Promise 10, ==== 2 CLAUSES: " + begun + " and sign " + k;
                if (row[1].indexOf(sign) >= 0) {
                    Due.is(place + " goes on, and ends too early", got, fault(begun.length() + 1));
                } else if (row[2].indexOf(sign) >= 0) {
                    Due.holds(place + " is a set-up", got >= 0);
                } else {
                    Due.is(place + " is the FAULT", got, fault(begun.length()));
                }
            }
        }
    }

    /** Every beginning of a set-up with each CLAUSE; those that are set-ups themselves are told. */
    private static void itEndsTooEarly() {
        String text = "d41399.11.10;q11.987;p2090;e10.9;f05.7;c12;d0115.0.9;q0.111;p1111;e9.1;f9.0;c7";
        String[] wholes = {"d41399.11.1", "d41399.11.10", "q11.987", "p2090", "e10.9", "f05.7", "c1", "c12",
            "d0115.0.9",
            "q0.111", "p1111", "e9.1", "f9.0", "c7"};
        boolean[] isWhole = new boolean[text.length() + 1];
        int at = 0;
        for (String whole : wholes) {
            at = text.indexOf(whole, at);
            isWhole[at + whole.length()] = true;
        }
        for (int n = 0; n <= text.length(); n++) {
            int got = fed(text.substring(0, n)).read();
            String place = "Promise 10, ==== 2 the FAULT: the end of THE TEXT, if it ends too early: of " + n;
            if (isWhole[n]) {
                Due.holds(place + " it doesn't", got > 0);
            } else {
                Due.is(place, got, fault(n));
            }
        }
        Due.is("Promise 10: how many CLAUSES were done", fed(text).read(), 12);
    }

    private static void theFirstFaultStands() {
        String text = "d41399.11.10;q11.987;p2090;e10.9;f05.7;c12";
        for (int k = 0; k < text.length(); k++) {
            for (char sign : new char[] {' ', 'x', (char) 0, (char) 127, 'D', '/', ':', ','}) {
                String with = text.substring(0, k) + sign + text.substring(k + 1);
                Due.is("Promise 10, ==== 2 the FAULT: the first byte, others are right: " + with, fed(with).read(),
                    fault(k));
                String two = with.substring(0, text.length() - 1) + sign;
                Due.is("Promise 10, ==== 2 the FAULT: the first of two: " + two, fed(two).read(), fault(k));
            }
        }
        Due.is("==== 2 No blanks: ahead", fed(" c1").read(), fault(0));
        Due.is("==== 2 No blanks: behind", fed("c1 ").read(), fault(2));
        Due.is("==== 2 No blanks: between", fed("c1; c2").read(), fault(3));
        Due.is("==== 2 No blanks: inside", fed("c 1").read(), fault(1));
        Due.is("==== 2 with ; between: ahead", fed(";c1").read(), fault(0));
        Due.is("==== 2 with ; between: two of them", fed("c1;;c2").read(), fault(3));
        Due.is("==== 2 with ; between: behind", fed("c1;").read(), fault(3));
        Due.is("==== 2 with ; between: none", fed("c1c2").read(), fault(2));
    }

    /** What was THE TEXT is read ahead: of LIVED that makes CAP 6. */
    private static Edge.Scene with(Edge.Scene scene, String text) {
        return m -> {
            scene.set(m);
            m.read();
            Scenes.text(m, text);
        };
    }

    /** Of what is told these rows are as they say, all others as they were, and THE TEXT is empty. */
    private static void reads(String place, Edge.Scene scene, String text, int due, String... rows) {
        List<String> all = new ArrayList<>(List.of(rows));
        all.add("count(4)=0");
        Edge.changes("Promise 10, ==== 2 " + place + ": " + text, with(scene, text), Mind::read, due,
            all.toArray(new String[0]));
    }

    private static void nothingIsDoneWithAFault() {
        String[] texts = {"", "x", "c3;", "c3;x", "c3;c", "c3 ", "c3;q1.11", "d0111.1.1;q1.999;p2999;e1.9;f1.9;c3;c123",
            "d0111.1.1;d0111.1.1;d0111.1.", TWELVE + ";", TWELVE + ";c1"};
        int[] faults = {0, 0, 3, 3, 4, 2, 8, 39, 28, 35, 35};
        for (int k = 0; k < texts.length; k++) {
            reads("nothing is done with a FAULT", NEW, texts[k], fault(faults[k]));
            reads("nothing is done with a FAULT", LIVED, texts[k], fault(faults[k]));
        }
    }

    private static void clausesOneToTwelve() {
        StringBuilder text = new StringBuilder();
        for (int n = 1; n <= 14; n++) {
            text.append(n == 1 ? "" : ";").append("e").append(n % 3).append(".").append(n % 10);
            int due = n <= 12 ? n : fault(59);
            Due.is("Promise 10, ==== 2 CLAUSES, 1 to 12: " + n, fed(text.toString()).read(), due);
        }
        Due.is("Promise 10, ==== 2 CLAUSES, 1 to 12: none", fed("").read(), fault(0));
        Due.is("Promise 10: 12", fed(TWELVE).read(), 12);
        Due.is("Promise 10: 12 and a ;", fed(TWELVE + ";").read(), fault(35));
        Due.is("Promise 10: 13", fed(TWELVE + ";c1").read(), fault(35));
        Due.is("Promise 10: 12, the last with two digits", fed(TWELVE + "2").read(), 12);
        Due.is("Promise 10: 12, the last with three digits", fed(TWELVE + "23").read(), fault(36));
    }

    private static void aHundredSigns() {
        String text = "d01299.11.11;d01299.11.11;d01299.11.11;d01299.11.11;d01299.11.11;d01299.11.11;"
            + "q11.999;e0.1;c12;c11";
        Due.is("==== 2 THE TEXT, 98 bytes", text.length(), 98);
        Due.is("Promise 10: read of 98", fed(text).read(), 10);
        Due.is("Promise 10: read of 100", fed(text + ";p").read(), fault(100));
        String full = "d01299.11.11;d01299.11.11;d01299.11.11;d01299.11.11;d01299.11.11;d01299.11.11;"
            + "q11.999;e01.1;f0.1;c12";
        Due.is("==== 2 THE TEXT, 100 bytes at most", full.length(), 100);
        Mind m = fed(full);
        Due.is("Promise 9: all were fed", m.count(4), 100);
        Due.is("Promise 10: a set-up of 100 is read", m.read(), 10);
        Due.is("Promise 10: up to its end", m.told(0), 12);
        Mind more = fed(full.substring(0, 99) + "33");
        Due.is("Promise 9: the 101st sign is not of it", more.read(), 9);
        Due.is("Promise 10: so c13 is refused", more.told(0), 8);
    }

    private static void demands() {
        int[][] done = {{0, 0, 1, 0, 0, 0}, {4, 9, 9, 99, 11, 11}, {1, 5, 5, 9, 9, 10}, {3, 0, 2, 10, 10, 9}};
        for (int[] d : done) {
            String text = "d" + d[0] + d[1] + d[2] + d[3] + "." + d[4] + "." + d[5];
            reads("d KIND RANK WANTS WORTH . FROM . TO", NEW, text, 1, "told(4)=1", "count(0)=1",
                "demandOf(0, 0)=" + d[0],
                "demandOf(0, 1)=" + d[1], "demandOf(0, 2)=" + d[2], "demandOf(0, 3)=" + d[3], "demandOf(0, 4)=" + d[4],
                "demandOf(0, 5)=" + d[5], "demandOf(0, 6)=0");
        }
        reads("WORTH, FROM, TO with a 0 ahead", NEW, "d00105.07.08", 1, "told(4)=1", "count(0)=1", "demandOf(0, 0)=0",
            "demandOf(0, 1)=0", "demandOf(0, 2)=1", "demandOf(0, 3)=5", "demandOf(0, 4)=7", "demandOf(0, 5)=8",
            "demandOf(0, 6)=0");
        for (String text : new String[] {"d5011.0.0", "d9011.0.0", "d0001.0.0", "d0011.12.0", "d0011.0.12",
            "d0011.99.0",
            "d0011.0.99", "d99099.99.99"}) {
            reads("those that would be refused aren't done", NEW, text, 0);
            reads("those that would be refused aren't done", LIVED, text, 0);
        }
    }

    private static void demandsUpToSix() {
        for (int had = 0; had <= 6; had++) {
            int many = had;
            Mind m = new Mind();
            for (int k = 0; k < many; k++) {
                m.demand(0, 0, 9, 0, 0, 0);
            }
            Scenes.text(m, "d0015.0.0;d0016.0.0;d0017.0.0;c3");
            int room = Math.min(3, 6 - many);
            Due.is("Promise 10: DEMANDS up to 6, done ahead of a refused one: there were " + had, m.read(), room + 1);
            Due.is("Promise 10: how many DEMANDS", m.told(4), many + room);
            for (int k = 0; k < room; k++) {
                Due.is("Promise 10: one behind the other", m.demandOf(many + k, 3), 5 + k);
            }
            Due.is("Promise 10: the CLAUSE behind a refused one is done", m.told(0), 3);
        }
    }

    private static void inflows() {
        reads("q MONTH . A B C", LIVED, "q0.000", 1, "monthOf(0, 0)=0", "monthOf(0, 1)=0", "monthOf(0, 2)=0");
        reads("q MONTH . A B C", LIVED, "q11.987", 1, "monthOf(11, 0)=9", "monthOf(11, 1)=8", "monthOf(11, 2)=7");
        reads("q MONTH . A B C", LIVED, "q00.999", 1, "monthOf(0, 0)=9", "monthOf(0, 1)=9", "monthOf(0, 2)=9");
        reads("q MONTH . A B C", LIVED, "q09.012", 1, "monthOf(9, 0)=0", "monthOf(9, 1)=1", "monthOf(9, 2)=2");
        reads("INFLOWS that were 0 are changed as well", LIVED, "q5.000;q5.012;q5.300;q5.040;q5.000;q5.089", 6,
            "monthOf(5, 0)=0",
            "monthOf(5, 1)=8", "monthOf(5, 2)=9");
        reads("those that would be refused aren't done: MONTHS 0 .. 11", LIVED, "q12.555", 0);
        reads("those that would be refused aren't done: MONTHS 0 .. 11", LIVED, "q99.555", 0);
    }

    private static void parts() {
        for (int i = 0; i < 3; i++) {
            String of = "partOf(" + i + ", ";
            reads("p I A B C", LIVED, "p" + i + "234", 1, of + "0)=2", of + "1)=3", of + "2)=4", of + "3)=9");
            reads("p I A B C", LIVED, "p" + i + "999", 1, of + "0)=9", of + "1)=9", of + "2)=9", of + "3)=27");
            reads("p, one of the three isn't 0", LIVED, "p" + i + "100", 1, of + "0)=1", of + "1)=0", of + "2)=0",
                of + "3)=1");
            reads("p, one of the three isn't 0", LIVED, "p" + i + "010", 1, of + "0)=0", of + "1)=1", of + "2)=0",
                of + "3)=1");
            reads("p, one of the three isn't 0", LIVED, "p" + i + "001", 1, of + "0)=0", of + "1)=0", of + "2)=1",
                of + "3)=1");
            reads("p, two are as many as the third", LIVED, "p" + i + "121", 1, of + "0)=1", of + "1)=2", of + "2)=1",
                of + "3)=4");
            reads("p, two are as many as the third", LIVED, "p" + i + "112", 1, of + "0)=1", of + "1)=1", of + "2)=2",
                of + "3)=4");
            reads("p, two are as many as the third", LIVED, "p" + i + "211", 1, of + "0)=2", of + "1)=1", of + "2)=1",
                of + "3)=4");
            reads("p isn't done if all three are 0", LIVED, "p" + i + "000", 0);
            reads("p by way of what is all 0 with the old ones", LIVED, "p" + i + "100;p" + i + "001", 2, of + "0)=0",
                of + "1)=0", of + "2)=1", of + "3)=1");
        }
        reads("those that would be refused aren't done: STATES 0 .. 2", LIVED, "p3111", 0);
        reads("those that would be refused aren't done: STATES 0 .. 2", LIVED, "p9111", 0);
        reads("those that would be refused aren't done: STATES 0 .. 2", LIVED, "p3000", 0);
    }

    private static void dries() {
        reads("e MONTH . V (DRIES)", LIVED, "e0.9", 1, "monthOf(0, 3)=9");
        reads("e MONTH . V (DRIES)", LIVED, "e11.1", 1, "monthOf(11, 3)=1");
        reads("e MONTH . V (DRIES)", LIVED, "e01.0", 1, "monthOf(1, 3)=0");
        reads("those that would be refused aren't done: MONTHS 0 .. 11", LIVED, "e12.1", 0);
        reads("those that would be refused aren't done: MONTHS 0 .. 11", LIVED, "e99.1", 0);
    }

    private static void floods() {
        reads("f MONTH . V (FLOOD)", LIVED, "f0.9", 1, "monthOf(0, 4)=9", "monthOf(0, 5)=0");
        reads("f MONTH . V (FLOOD)", LIVED, "f11.1", 1, "monthOf(11, 4)=1", "monthOf(11, 5)=5");
        reads("f MONTH . V (FLOOD)", LIVED, "f02.0", 1, "monthOf(2, 4)=0", "monthOf(2, 5)=6");
        reads("those that would be refused aren't done: MONTHS 0 .. 11", LIVED, "f12.1", 0);
        reads("those that would be refused aren't done: MONTHS 0 .. 11", LIVED, "f99.1", 0);
    }

    private static void caps() {
        String[] done = {"c1", "c01", "c2", "c9", "c09", "c10", "c11", "c12"};
        int[] caps = {1, 1, 2, 9, 9, 10, 11, 12};
        for (int k = 0; k < done.length; k++) {
            List<String> rows = new ArrayList<>();
            rows.add("told(0)=" + caps[k]);
            for (int month = 0; month < 12; month++) {
                rows.add("monthOf(" + month + ", 5)=" + caps[k]);
            }
            reads("c V (CAP; 1 or 2 digits)", NEW, done[k], 1, rows.toArray(new String[0]));
        }
        for (String text : new String[] {"c0", "c00", "c13", "c14", "c20", "c99"}) {
            reads("those that would be refused aren't done: CAP 1 .. 12", NEW, text, 0);
            reads("those that would be refused aren't done: CAP 1 .. 12", LIVED, text, 0);
        }
    }

    private static void oneBehindTheOther() {
        reads("they are done, one behind the other", LIVED, "e3.1;e3.2;e3.3", 3, "monthOf(3, 3)=3");
        reads("a refused one between", LIVED, "e3.1;e12.5;e4.3", 2, "monthOf(3, 3)=1", "monthOf(4, 3)=3");
        reads("a refused one ahead", LIVED, "p0000;e4.3", 1, "monthOf(4, 3)=3");
        reads("a refused one behind", LIVED, "e4.3;c13", 1, "monthOf(4, 3)=3");
        reads("all are refused", LIVED, "c13;c0;e12.0;f12.0;q12.111;p0000;p3111;d5111.1.1", 0);
        Mind m = Edge.made(LIVED);
        Due.is("Promise 10: LIVED's own", m.read(), 2);
        Due.is("Promise 10: c6", m.told(0), 6);
        Due.is("Promise 10: e4.2", m.monthOf(4, 3), 2);
    }

    private static void itIsEmptyThen() {
        Mind m = new Mind();
        Due.is("Promise 10: THE TEXT is empty", m.read(), fault(0));
        for (String text : new String[] {"c5", "c0", "c", "x"}) {
            Scenes.text(m, text);
            m.read();
            Due.is("Promise 10: THE TEXT is empty then, " + text, m.count(4), 0);
            Due.is("Promise 10: and read as that", m.read(), fault(0));
            Due.is("Promise 9: a sign is its first", m.feed('e'), 1);
            m.read();
        }
    }
}

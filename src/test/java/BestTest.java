/** Promises 19 to 25: the best, releases, the chain, what things are worth. */
public final class BestTest {
    private static final long NO = ReservoirMind.NO;
    private static final int NONE = ReservoirMind.NONE;

    public static void main(String[] args) {
        oneMonth();
        twoMonths();
        refusals();
        promise22();
        promise23And24();
        worthOfDemandAndRoom();
        worthOfFlood();
        greatReleases();
        everyChangeIsSeen();
        Due.end("BestTest");
    }

    private static void oneMonth() {
        Mind m = new Mind();
        m.put(1, 1);
        Due.is("at the horizon", m.best(1, 5, 2), Due.bits(15f));
        Due.is("all is kept", m.best(0, 5, 1), Due.bits(21f));
        Due.is("by no release", m.release(0, 5, 1), 0);
        Due.is("what would spill is let go", m.best(0, 8, 2), Due.bits(24f));
        Due.is("the least by which none spills", m.release(0, 8, 2), 4);
        Due.is("4 spilled", m.would(0, 8, 2, 0), Due.bits(16f));
        Due.is("2 spilled", m.would(0, 8, 2, 2), Due.bits(20f));
        Due.is("none spilled", m.would(0, 8, 2, 4), Due.bits(24f));
        Due.is("all released", m.would(0, 8, 2, 12), Due.bits(0f));
        Due.is("no more than all", m.would(0, 8, 2, 20), Due.bits(0f));
        m.demand(1, 0, 9, 10, 0, 11);
        m.put(3, 0);
        Due.is("less than 0, as an int's bits", m.best(0, 0, 0), Due.bits(-70f));
        Due.holds("which are below 0", m.best(0, 0, 0) < 0 && m.best(0, 0, 0) >= Integer.MIN_VALUE);
        Due.is("release", m.release(0, 0, 0), 1);
        m.put(3, 20);
        Due.is("a unit serves to the same end", m.release(0, 8, 0), 1);
        m.put(2, 0);
        m.drop(0);
        m.put(3, 0);
        Due.is("of like ones the least", m.release(0, 8, 2), 0);
        Due.is("best 0", m.best(0, 8, 2), 0);
    }

    /** MEAN is a sum from 0 on, divided once, in floats. */
    private static void twoMonths() {
        Mind m = new Mind();
        m.put(1, 2);
        m.put(3, 1);
        Due.is("month 1", m.best(1, 1, 2), Due.bits(5f));
        Due.is("month 0", m.best(0, 0, 0), Due.bits(10f / 3f));
        m.part(0, 0, 7);
        m.part(0, 2, 3);
        float mean = (7f * 2f + 1f * 3f + 3f * 5f) / 11f;
        Due.is("by parts", m.best(0, 0, 0), Due.bits(mean));
        m.demand(0, 0, 1, 2, 0, 0);
        float later = (7f * 1f + 1f * 2f + 3f * 4f) / 11f;
        Due.is("a demand of month 0", m.would(0, 0, 0, 1), Due.bits(2f + later));
        Due.is("is served", m.release(0, 0, 0), 1);
        m.month(0, 0, 9);
        Due.is("7 of 8 dry away", m.would(0, 8, 0, 1), Due.bits(2f + mean));
    }

    private static void refusals() {
        Mind m = new Mind();
        Due.is("at the horizon none is released", m.release(6, 0, 0), NONE);
        Due.is("at the horizon none would be", m.would(6, 0, 0, 0), NO);
        int[][] no = {{7, 0, 0}, {-1, 0, 0}, {0, 9, 0}, {0, -1, 0}, {0, 0, 3}, {0, 0, -1},
            {Integer.MAX_VALUE, 0, 0}, {0, Integer.MIN_VALUE, 0}};
        for (int[] n : no) {
            Due.is("best", m.best(n[0], n[1], n[2]), NO);
            Due.is("release", m.release(n[0], n[1], n[2]), NONE);
            Due.is("would", m.would(n[0], n[1], n[2], 0), NO);
        }
        Due.is("r", m.would(0, 0, 0, 21), NO);
        Due.is("r", m.would(0, 0, 0, -1), NO);
        m.put(1, 12);
        m.put(0, 12);
        Due.is("up to the horizon", m.best(12, 12, 2), Due.bits(36f));
        Due.holds("and the last month", m.release(11, 12, 2) >= 0);
    }

    private static void promise22() {
        Mind m = new Mind();
        m.part(0, 1, 0);
        m.part(0, 2, 4);
        Due.is("after 0", m.after(0, 0, 0), Due.bits(1f));
        Due.is("after 0", m.after(0, 0, 2), Due.bits(0f));
        Due.is("after 1", m.after(1, 0, 0), Due.bits(1f / 5f));
        Due.is("after 1", m.after(1, 0, 1), Due.bits(0f));
        Due.is("after 1", m.after(1, 0, 2), Due.bits(4f / 5f));
        float third = 1f / 3f;
        Due.is("after 2", m.after(2, 0, 1), Due.bits((1f / 5f) * 0f + 0f * third + (4f / 5f) * third));
        Due.is("after 2", m.after(2, 0, 2), Due.bits((1f / 5f) * (4f / 5f) + 0f * third + (4f / 5f) * third));
        Due.holds("after 12", m.after(12, 2, 1) > 0);
        Due.is("n", m.after(13, 0, 0), NO);
        Due.is("n", m.after(-1, 0, 0), NO);
        Due.is("from", m.after(1, 3, 0), NO);
        Due.is("from", m.after(1, -1, 0), NO);
        Due.is("to", m.after(1, 0, 3), NO);
        Due.is("to", m.after(1, 0, -1), NO);
    }

    private static void promise23And24() {
        Mind m = new Mind();
        for (int k = 0; k < 8; k++) {
            Due.is("of like ways that with the least states", m.way(2, 8, k), 0);
        }
        float third = 1f / 3f;
        Due.is("chance", m.chance(2, 2), Due.bits(third * third));
        Due.is("chance of one month", m.chance(2, 1), Due.bits(third));
        // the likeliest first step (0 to 2) leads to where nothing is likely: 0 to 1 to 1 .. is likelier
        m.part(0, 2, 4);
        m.part(0, 1, 3);
        m.part(1, 1, 9);
        m.part(1, 0, 0);
        m.part(1, 2, 0);
        Due.is("one month", m.way(0, 1, 0), 2);
        Due.is("two months", m.way(0, 2, 0), 1);
        Due.is("two months", m.way(0, 2, 1), 1);
        Due.is("their chance", m.chance(0, 2), Due.bits((3f / 8f) * 1f));
        Due.is("eight months", m.chance(0, 8), Due.bits(3f / 8f));
        int[][] none = {{3, 1, 0}, {-1, 1, 0}, {0, 0, 0}, {0, 9, 0}, {0, 2, 2}, {0, 2, -1}};
        for (int[] n : none) {
            Due.is("way of no such", m.way(n[0], n[1], n[2]), NONE);
        }
        for (int k = 0; k < 4; k++) {
            Due.is("chance of no such", m.chance(none[k][0], none[k][1]), NO);
        }
    }

    private static void worthOfDemandAndRoom() {
        Mind m = new Mind();
        m.put(1, 1);
        m.demand(0, 0, 2, 10, 0, 11);
        m.demand(0, 1, 1, 50, 1, 1);
        Due.is("two units of 10 rather than of 3", m.worth(0, 0, 5, 1), Due.bits(14f));
        Due.is("none of it in the horizon", m.worth(0, 1, 5, 1), Due.bits(0f));
        Due.is("demand", m.worth(0, 2, 0, 0), NO);
        Due.is("demand", m.worth(0, -1, 0, 0), NO);
        Due.is("there are as many as before", m.told(4), 2);
        m.drop(1);
        m.drop(0);
        Due.is("room for one unit of 3", m.worth(1, 99, 8, 2), Due.bits(3f));
        Due.is("room that is not filled", m.worth(1, Integer.MIN_VALUE, 0, 0), Due.bits(0f));
        m.put(0, 12);
        Due.is("room of 13", m.worth(1, 0, 12, 2), Due.bits(3f));
        Due.is("store", m.worth(1, 0, 13, 0), NO);
        Due.is("store", m.worth(1, 0, -1, 0), NO);
        Due.is("state", m.worth(1, 0, 0, 3), NO);
        Due.is("state", m.worth(1, 0, 0, -1), NO);
        Due.is("what", m.worth(3, 0, 0, 0), NO);
        Due.is("what", m.worth(-1, 0, 0, 0), NO);
        Due.is("CAP is as before", m.told(0), 12);
    }

    /** All of 21 units but one can be let go. */
    private static void greatReleases() {
        Mind m = new Mind();
        m.put(0, 12);
        m.put(1, 1);
        m.put(3, 0);
        m.inflow(0, 2, 9);
        m.demand(0, 0, 9, 10, 0, 11);
        m.demand(0, 0, 9, 10, 0, 11);
        m.demand(0, 0, 1, 1, 0, 11);
        Due.is("19 are let go", m.release(0, 12, 2), 19);
        Due.is("for", m.best(0, 12, 2), Due.bits(181f));
        m.demand(0, 0, 9, 1, 0, 11);
        Due.is("20 are let go, and no more", m.release(0, 12, 2), 20);
        Due.is("for", m.best(0, 12, 2), Due.bits(182f));
        Due.is("18", m.would(0, 12, 2, 18), Due.bits(180f));
        Due.is("20", m.would(0, 12, 2, 20), Due.bits(182f));
    }

    /** What was found once may not be answered any more when the reservoir has changed. */
    private static void everyChangeIsSeen() {
        Mind m = new Mind();
        m.put(1, 1);
        m.image();
        Due.is("at first", m.best(0, 8, 1), Due.bits(24f));
        m.inflow(0, 1, 0);
        Due.is("inflow", m.best(0, 7, 1), Due.bits(21f));
        m.month(0, 1, 5);
        Due.is("flood", m.best(0, 7, 1), Due.bits(9f));
        m.month(0, 0, 9);
        Due.is("dries", m.best(0, 7, 1), Due.bits(3f));
        m.demand(0, 0, 1, 9, 0, 0);
        Due.is("demand", m.best(0, 7, 1), Due.bits(9f));
        m.renew(0, 2, 11);
        Due.is("renew", m.best(0, 7, 1), Due.bits(11f));
        m.drop(0);
        Due.is("drop", m.best(0, 7, 1), Due.bits(3f));
        m.undo();
        Due.is("undo", m.best(0, 7, 1), Due.bits(24f));
        Due.read(m, "q0.000");
        Due.is("read", m.best(0, 7, 1), Due.bits(21f));
        m.put(1, 2);
        Due.is("the horizon", m.best(0, 0, 0), Due.bits((3f + 6f + 12f) / 3f));
        m.part(0, 2, 0);
        Due.is("part", m.best(0, 0, 0), Due.bits((3f + 6f) / 2f));
        Due.records(m, 0, 0, 4);
        m.learn(0);
        Due.is("learn", m.best(0, 0, 0), Due.bits((3f + 6f + 2f * 12f) / 4f));
        m.put(3, 1);
        Due.is("LEFT", m.best(0, 0, 0), Due.bits((1f + 2f + 2f * 4f) / 4f));
        m.put(0, 3);
        Due.is("CAP", m.best(0, 0, 0), Due.bits((1f + 2f + 2f * 3f) / 4f));
        Due.is("what would spill", m.would(1, 0, 2, 0), Due.bits(1f));
        m.put(2, 9);
        Due.is("HARM", m.would(1, 0, 2, 0), Due.bits(-6f));
    }

    private static void worthOfFlood() {
        Mind m = new Mind();
        m.put(1, 1);
        Due.is("one unit of 3 less", m.worth(2, 0, 8, 2), Due.bits(3f));
        Due.is("a month beyond the horizon", m.worth(2, 11, 8, 2), Due.bits(0f));
        m.put(0, 12);
        m.month(0, 1, 9);
        Due.is("flood space of 10", m.worth(2, 0, 12, 2), Due.bits(3f));
        m.put(0, 4);
        Due.is("no top to lose", m.worth(2, 0, 4, 2), Due.bits(0f));
        Due.is("FLOOD is as before", m.monthOf(0, 4), 9);
        Due.is("month", m.worth(2, 12, 0, 0), NO);
        Due.is("month", m.worth(2, -1, 0, 0), NO);
    }
}

/** The boundary cases of promises 22 to 28: ways of the tale. */
public final class WayEdgesTest extends Edges {
    private static final String CHAIN = "farms 2 moments 8;bit 0 to 1;bit 1 to 2;bit 2 to 3;bit 3 to 4;bit 4 to 5;bit 5 to 6;bit 6 to 7;";

    private WayEdgesTest() {
    }

    public static void main(String[] args) throws Exception {
        runAll(WayEdgesTest.class);
    }

    static void reached() {
        sentence("Promise 22", "MOMENTS to which there are WAYS from a MOMENT (itself, too), as bits.");
        int[] due = {15, 15, 12, 8};
        for (int moment = 0; moment < 4; moment++) {
            int m = moment;
            unchanged("reach(" + m + ")", x -> x.reach(m), due[m]);
        }
        PartyLine x = fine(CHAIN, 8);
        due("all", x.reach(0), 255);
        due("the last two", x.reach(6), 192);
        due("itself alone", x.reach(7), 128);
        due("itself without bits", new PartyLine().reach(1), 2);
        x = fine("farms 2 moments 4;bit 3 to 2;bit 2 to 1;bit 1 to 0;tells:not bit=1;", 5);
        due("what nobody may tell leads nowhere", x.reach(3), 12);
        due("behind it", x.reach(1), 3);
        due("bits backwards", fine("farms 2 moments 8;bit 6 to 7;bit 5 to 6;bit 4 to 5;bit 3 to 4;bit 2 to 3;bit 1 to 2;bit 0 to 1;", 8).reach(0), 255);
    }

    static void reachRefuses() {
        sentence("Promise 22", "-2.");
        refused("reach(4)", x -> x.reach(4), -2);
        for (int wrong : WRONG) {
            refused("reach(" + wrong + ")", x -> x.reach(wrong), -2);
        }
        due("reach(3)", Scene.lived().reach(3), 8);
        due("reach(8) of eight", fine(CHAIN, 8).reach(8), -2);
    }

    static void theShortWay() {
        sentence("Promise 23", "The SHORT WAY: how many BITS.");
        unchanged("fewest(0, 3)", x -> x.fewest(0, 3), 2);
        PartyLine x = fine(CHAIN, 8);
        for (int to = 0; to < 8; to++) {
            due("fewest(0, " + to + ")", x.fewest(0, to), to);
        }
        x = fine(CHAIN + "bit 0 to 7;", 9);
        due("the shorter one", x.fewest(0, 7), 1);
        x = fine("farms 2 moments 3;bit 1 to 0;bit 2 to 1;", 3);
        due("to moment 0", x.fewest(1, 0), 1);
        due("to moment 0 over 1", x.fewest(2, 0), 2);
        due("a bit to itself isn't needed", fine("farms 2 moments 2;bit 0 to 0;", 2).fewest(0, 0), 0);
    }

    static void noShortWay() {
        sentence("Promise 23", "NONE: there is none; -2.");
        unchanged("fewest(3, 0)", x -> x.fewest(3, 0), -1);
        unchanged("fewest(3, 3)", x -> x.fewest(3, 3), 0);
        refused("fewest(4, 0)", x -> x.fewest(4, 0), -2);
        refused("fewest(0, 4)", x -> x.fewest(0, 4), -2);
        refused("fewest(4, 4)", x -> x.fewest(4, 4), -2);
        for (int wrong : WRONG) {
            refused("fewest(" + wrong + ", 0)", x -> x.fewest(wrong, 0), -2);
            refused("fewest(0, " + wrong + ")", x -> x.fewest(0, wrong), -2);
        }
    }

    static void bitsOfTheShortWay() {
        sentence("Promise 24", "The i-th BIT of it.");
        unchanged("way(0, 3, 0)", x -> x.way(0, 3, 0), 2);
        unchanged("way(0, 3, 1)", x -> x.way(0, 3, 1), 3);
        PartyLine x = fine(CHAIN, 8);
        for (int i = 0; i < 7; i++) {
            due("way(0, 7, " + i + ")", x.way(0, 7, i), i);
        }
        due("behind the last", x.way(0, 7, 7), -1);
    }

    static void noSuchBitOfTheShortWay() {
        sentence("Promise 24", "NONE: not so many, there is none; -2; -3: i is below 0.");
        unchanged("way(0, 3, 2): not so many", x -> x.way(0, 3, 2), -1);
        unchanged("way(0, 3, MAX): not so many", x -> x.way(0, 3, Integer.MAX_VALUE), -1);
        unchanged("way(2, 2, 0): no bits", x -> x.way(2, 2, 0), -1);
        unchanged("way(3, 0, 0): there is none", x -> x.way(3, 0, 0), -1);
        refused("way(0, 3, -1)", x -> x.way(0, 3, -1), -3);
        refused("way(0, 3, MIN)", x -> x.way(0, 3, Integer.MIN_VALUE), -3);
        refused("way(3, 0, -1): ahead of NONE", x -> x.way(3, 0, -1), -3);
        refused("way(4, 0, -1): ahead of -3", x -> x.way(4, 0, -1), -2);
        refused("way(0, 4, 0)", x -> x.way(0, 4, 0), -2);
        for (int wrong : WRONG) {
            refused("way(" + wrong + ", 0, 0)", x -> x.way(wrong, 0, 0), -2);
            refused("way(0, " + wrong + ", 0)", x -> x.way(0, wrong, 0), -2);
        }
    }

    static void waysOfJustSoMany() {
        sentence("Promise 25", "How many WAYS of just n BITS (0 to 15) there are.");
        unchanged("ways(0, 3, 2)", x -> x.ways(0, 3, 2), 1);
        unchanged("ways(0, 3, 3)", x -> x.ways(0, 3, 3), 1);
        PartyLine x = fine("farms 2 moments 2;" + "bit 0 to 0;".repeat(12), 13);
        long many = 1;
        for (int n = 0; n <= 15; n++) {
            due("ways(0, 0, " + n + ")", x.ways(0, 0, n), many);
            due("ways(0, 1, " + n + ")", x.ways(0, 1, n), 0);
            many *= 12;
        }
        due("no bits, there", x.ways(1, 1, 0), 1);
        due("no bits, elsewhere", x.ways(0, 1, 0), 0);
        x = fine("farms 2 moments 2;bit 0 to 1;bit 0 to 1;bit 1 to 0;tells:not bit=1 or mood=1;", 5);
        due("one may be told", x.ways(0, 1, 15), 1);
        due("none of an even number", x.ways(0, 1, 14), 0);
        x.mood(0, 1);
        due("both may be told", x.ways(0, 1, 15), 256);
        due("back again", x.ways(0, 0, 14), 128);
    }

    static void waysRefuses() {
        sentence("Promise 25", "-2; -3.");
        refused("ways(0, 0, 16)", x -> x.ways(0, 0, 16), -3);
        due("ways(0, 0, 15)", Scene.lived().ways(0, 0, 15), 0);
        due("ways(0, 0, 14)", Scene.lived().ways(0, 0, 14), 1);
        refused("ways(4, 0, 16): -2 ahead of -3", x -> x.ways(4, 0, 16), -2);
        refused("ways(0, 4, 0)", x -> x.ways(0, 4, 0), -2);
        refused("ways(4, 0, 0)", x -> x.ways(4, 0, 0), -2);
        for (int wrong : WRONG) {
            refused("ways(0, 0, " + wrong + ")", x -> x.ways(0, 0, wrong), -3);
            refused("ways(" + wrong + ", 0, 0)", x -> x.ways(wrong, 0, 0), -2);
            refused("ways(0, " + wrong + ", 0)", x -> x.ways(0, wrong, 0), -2);
        }
    }

    /** All bits of a chain must be told, and five that lead back to its beginning. */
    private static PartyLine twelveMust() {
        return fine("farms 2 moments 8;bit 0 to 1 must;bit 1 to 2 must;bit 2 to 3 must;bit 3 to 4 must;bit 4 to 5 must;bit 5 to 6 must;"
            + "bit 6 to 7 must;bit 2 to 0 must;bit 3 to 0 must;bit 4 to 0 must;bit 5 to 0 must;bit 6 to 0 must;", 13);
    }

    static void theFullWay() {
        sentence("Promise 26", "The FULL WAY: how many BITS.");
        unchanged("full(0, 3)", x -> x.full(0, 3), 3);
        PartyLine x = twelveMust();
        due("all twelve must", x.count(3), 4095);
        due("five rounds of 3 to 7 bits, 7 to the end", x.full(0, 7), 3 + 4 + 5 + 6 + 7 + 7);
        due("once more", x.full(0, 7), 32);
        due("the short one behind it", x.fewest(0, 7), 7);
        x = fine(CHAIN + "bit 7 to 0;bit 0 to 0 must;bit 1 to 1 must;bit 2 to 2 must;bit 3 to 3 must;", 13);
        due("the farthest of all, with all told: four loops, ten bits", x.full(0, 2), 14);
        due("once more", x.full(0, 2), 14);
        x = fine(CHAIN, 8);
        due("none must", x.full(0, 7), 7);
        due("none must, no bits", x.full(3, 3), 0);
        x = fine("farms 2 moments 2;bit 0 to 0 must;bit 0 to 0 must;bit 0 to 1;", 4);
        due("each that must be told", x.full(0, 0), 2);
        due("and on", x.full(0, 1), 3);
    }

    static void noFullWay() {
        sentence("Promise 26", "NONE: there is none; -2.");
        unchanged("full(2, 3): what must be told lies behind", x -> x.full(2, 3), -1);
        unchanged("full(1, 3)", x -> x.full(1, 3), 2);
        unchanged("full(3, 0)", x -> x.full(3, 0), -1);
        unchanged("full(3, 3): though it is there", x -> x.full(3, 3), -1);
        refused("full(4, 0)", x -> x.full(4, 0), -2);
        refused("full(0, 4)", x -> x.full(0, 4), -2);
        for (int wrong : WRONG) {
            refused("full(" + wrong + ", 0)", x -> x.full(wrong, 0), -2);
            refused("full(0, " + wrong + ")", x -> x.full(0, wrong), -2);
        }
        PartyLine x = fine("farms 2 moments 2;bit 0 to 1;bit 0 to 0 must;tells:bit=0 or mood=1;", 4);
        due("nobody may tell what must be told", x.full(0, 1), -1);
        x.mood(1, 1);
        due("some one may", x.full(0, 1), 2);
        x = twelveMust();
        due("none back from the end", x.full(7, 0), -1);
    }

    static void bitsOfTheFullWay() {
        sentence("Promise 27", "The i-th BIT of it.");
        int[] due = {0, 1, 3, -1};
        for (int place = 0; place < 4; place++) {
            int i = place;
            unchanged("fullWay(0, 3, " + i + ")", x -> x.fullWay(0, 3, i), due[i]);
        }
        PartyLine x = twelveMust();
        int[] rounds = {6, 5, 4, 3, 2, 7};
        int i = 0;
        for (int round = 0; round < rounds.length; round++) {
            for (int b = 0; b < rounds[round]; b++) {
                due("round " + round, x.fullWay(0, 7, i), b);
                i++;
            }
            if (round < 5) {
                due("back, the farthest first", x.fullWay(0, 7, i), 11 - round);
                i++;
            }
        }
        due("behind the last", x.fullWay(0, 7, i), -1);
        due("so many", i, 32);
    }

    static void noSuchBitOfTheFullWay() {
        sentence("Promise 27", "As way().");
        unchanged("fullWay(0, 3, MAX): not so many", x -> x.fullWay(0, 3, Integer.MAX_VALUE), -1);
        unchanged("fullWay(2, 3, 0): there is none", x -> x.fullWay(2, 3, 0), -1);
        refused("fullWay(0, 3, -1)", x -> x.fullWay(0, 3, -1), -3);
        refused("fullWay(0, 3, MIN)", x -> x.fullWay(0, 3, Integer.MIN_VALUE), -3);
        refused("fullWay(2, 3, -1): ahead of NONE", x -> x.fullWay(2, 3, -1), -3);
        refused("fullWay(4, 0, -1): ahead of -3", x -> x.fullWay(4, 0, -1), -2);
        refused("fullWay(0, 4, 0)", x -> x.fullWay(0, 4, 0), -2);
        for (int wrong : WRONG) {
            refused("fullWay(" + wrong + ", 0, 0)", x -> x.fullWay(wrong, 0, 0), -2);
            refused("fullWay(0, " + wrong + ", 0)", x -> x.fullWay(0, wrong, 0), -2);
        }
        due("no bits", new PartyLine().fullWay(0, 0, 0), -1);
    }

    static void theEnds() {
        sentence("Promise 28", "MOMENTS from which no BIT leads on that some FARM MAY tell, as bits.");
        unchanged("ends()", x -> x.ends(), 8);
        due("no bits: all", fine("farms 2 moments 8;", 1).ends(), 255);
        due("the last of a chain", fine(CHAIN, 8).ends(), 128);
        due("none", fine(CHAIN + "bit 7 to 0;", 9).ends(), 0);
        due("none: a bit to where it is from is a bit, too", fine(CHAIN + "bit 7 to 7;", 9).ends(), 0);
        PartyLine x = fine("farms 8 moments 3;bit 0 to 1;bit 1 to 2;tells:bit=0 or mood=9;", 4);
        due("a bit that nobody may tell", x.ends(), 6);
        x.mood(7, 9);
        due("a bit that one may tell", x.ends(), 4);
    }
}

/** The boundary cases of promises 29 to 35: the game, and farms at one. */
public final class GameEdgesTest extends Edges {
    private static final String CHAIN = "moments 8;bit 0 to 1;bit 1 to 2;bit 2 to 3;bit 3 to 4;bit 4 to 5;bit 5 to 6;bit 6 to 7;";

    private GameEdgesTest() {
    }

    public static void main(String[] args) throws Exception {
        runAll(GameEdgesTest.class);
    }

    static void withinHowManyTurns() {
        sentence("Promise 29", "Within how many TURNS a FARM FORCES a MOMENT, at fewest (0: it thinks so).");
        unchanged("forces(0, 2): it thinks so", x -> x.forces(0, 2), 0);
        unchanged("forces(2, 3): it thinks so", x -> x.forces(2, 3), 0);
        unchanged("forces(0, 3): behind farm 1's silence farm 2 must", x -> x.forces(0, 3), 2);
        PartyLine x = fine("farms 8 " + CHAIN, 8);
        for (int m = 0; m < 8; m++) {
            due("all go on: moment " + m, x.forces(3, m), m);
        }
        x = fine("farms 8 " + CHAIN + "tells:farm=7;", 9);
        due("one alone goes on, seven rounds of eight", x.forces(0, 7), 56);
        due("the first round", x.forces(7, 1), 8);
        x.go(7);
        due("as from now on", x.forces(0, 7), 49);
        due("at once", x.forces(7, 1), 1);
        x = fine("farms 2 moments 3;bit 0 to 1;bit 1 to 2;bit 0 to 2;", 4);
        due("at fewest", x.forces(0, 2), 1);
        due("whatever the other one tells", x.forces(1, 2), 2);
    }

    static void neverForced() {
        sentence("Promise 29", "NONE: never; -2.");
        unchanged("forces(0, 0): no bit leads there", x -> x.forces(0, 0), -1);
        unchanged("forces(2, 2): nor back", x -> x.forces(2, 2), -1);
        refused("forces(3, 0)", x -> x.forces(3, 0), -2);
        refused("forces(0, 4)", x -> x.forces(0, 4), -2);
        for (int wrong : WRONG) {
            refused("forces(" + wrong + ", 0)", x -> x.forces(wrong, 0), -2);
            refused("forces(0, " + wrong + ")", x -> x.forces(0, wrong), -2);
        }
        PartyLine x = fine("farms 2 moments 2;bit 0 to 1;bit 0 to 0;tells:farm=1;", 4);
        due("the other one need not", x.forces(0, 1), -1);
        due("itself it does", x.forces(1, 1), 2);
    }

    static void theMomentsOfAFarm() {
        sentence("Promise 30", "MOMENTS a FARM FORCES, as bits.");
        unchanged("power(0)", x -> x.power(0), 12);
        unchanged("power(2)", x -> x.power(2), 8);
        due("its own alone", new PartyLine().power(1), 1);
        due("all", fine("farms 8 " + CHAIN, 8).power(7), 255);
        PartyLine x = fine("farms 2 moments 4;bit 0 to 1;bit 0 to 2;bit 1 to 0;bit 1 to 3;bit 2 to 3;", 6);
        due("farm 0's", x.power(0), 15);
        due("farm 1's", x.power(1), 9);
    }

    static void powerRefuses() {
        sentence("Promise 30", "-2.");
        refused("power(3)", x -> x.power(3), -2);
        for (int wrong : WRONG) {
            refused("power(" + wrong + ")", x -> x.power(wrong), -2);
        }
        due("power(2)", Scene.lived().power(2), 8);
    }

    static void theFirstBestBit() {
        sentence("Promise 31", "In THE GAME, its TURN being now: the first BIT by which it FORCES a MOMENT within as few TURNS as forces() tells.");
        PartyLine x = fine("farms 2 moments 3;bit 0 to 1;bit 0 to 2;bit 1 to 2;bit 0 to 2;", 5);
        due("bit 0 does, too, but slower; bit 3 is later", x.best(0, 2), 1);
        due("its turns", x.forces(0, 2), 1);
        due("by bit 0", x.best(0, 1), 0);
        x = fine("farms 2 moments 4;bit 0 to 0;bit 0 to 1;bit 1 to 2;bit 2 to 3;bit 0 to 2;", 6);
        due("two turns: by bit 4 alone", x.best(0, 3), 4);
        due("its turns", x.forces(0, 3), 2);
        x = fine("farms 2 moments 4;bit 0 to 1;bit 0 to 2;bit 1 to 3;bit 1 to 0;bit 2 to 3;", 6);
        due("not by bit 0: the other one could go back", x.best(0, 3), 1);
        x = fine("farms 2 moments 3;bit 0 to 1;bit 0 to 2;tells:not[farm=0 and bit=0];", 4);
        due("what it may not tell isn't it", x.best(0, 1), -1);
        due("what it may", x.best(0, 2), 1);
        x = fine("farms 2 moments 3;bit 1 to 0;bit 0 to 1;bit 1 to 2;now 1;", 5);
        x.go(1);
        due("the turn is farm 1's, all are at 0", x.best(1, 1), 1);
        due("farm 1 leads on, farm 0 need not", x.best(1, 2), -1);
    }

    private static PartyLine farmZeroIsSilent() {
        return fine("farms 2 moments 3;bit 0 to 1;bit 1 to 2;tells:farm=1 or bit=1;", 4);
    }

    static void noBestBit() {
        sentence("Promise 31", "NONE: it doesn't, it is there, it must be silent; -2; -5: it isn't its TURN.");
        unchanged("best(1, 0): it doesn't", x -> x.best(1, 0), -1);
        unchanged("best(1, 2): it is there", x -> x.best(1, 2), -1);
        unchanged("best(1, 3): it must be silent", x -> x.best(1, 3), -1);
        due("though it forces it", Scene.lived().forces(1, 3), 2);
        PartyLine y = fine("farms 2 moments 2;bit 0 to 1;bit 0 to 0;", 3);
        due("elsewhere by bit 0", y.best(0, 1), 0);
        due("it is there, though bits lead on and back", y.best(0, 0), -1);
        due("silent, though forced", farmZeroIsSilent().best(0, 1), -1);
        due("within", farmZeroIsSilent().forces(0, 1), 2);
        refused("best(0, 3): it isn't its turn", x -> x.best(0, 3), -5);
        refused("best(2, 3): it isn't its turn", x -> x.best(2, 3), -5);
        refused("best(0, 4): -2 ahead of -5", x -> x.best(0, 4), -2);
        refused("best(1, 4)", x -> x.best(1, 4), -2);
        refused("best(3, 0)", x -> x.best(3, 0), -2);
        for (int wrong : WRONG) {
            refused("best(" + wrong + ", 0)", x -> x.best(wrong, 0), -2);
            refused("best(1, " + wrong + ")", x -> x.best(1, wrong), -2);
        }
    }

    static void theFirstAlly() {
        sentence("Promise 32", "The FARM whose help (it tells as the one would have it) makes one FORCE a MOMENT that it doesn't so, the first.");
        String text = "farms 4 moments 2;bit 0 to 0;bit 0 to 1;tells:bit=0 or farm";
        due("farms 1 to 3 could: the first", fine(text + ">0;", 4).ally(0, 1), 1);
        due("farms 2, 3 could", fine(text + ">1;", 4).ally(0, 1), 2);
        due("the last alone could", fine(text + "=3;", 4).ally(0, 1), 3);
        due("the first of all could", fine(text + "=0;", 4).ally(3, 1), 0);
        PartyLine x = fine("farms 3 moments 3;bit 0 to 0;bit 0 to 1;bit 1 to 1;bit 1 to 2;"
            + "tells:bit=0 or bit=2 or bit=1 and farm=1 or bit=3 and farm=2;", 6);
        due("one's help does", x.ally(0, 1), 1);
        due("it would take two", x.ally(0, 2), -1);
        due("farm 1 needs the other one", x.ally(1, 2), 2);
        due("farm 2 likewise", x.ally(2, 2), 1);
    }

    static void noAlly() {
        sentence("Promise 32", "NONE: it does, nobody's; -2.");
        unchanged("ally(0, 2): it is there", x -> x.ally(0, 2), -1);
        unchanged("ally(0, 3): it does", x -> x.ally(0, 3), -1);
        unchanged("ally(0, 0): nobody's", x -> x.ally(0, 0), -1);
        refused("ally(3, 0)", x -> x.ally(3, 0), -2);
        refused("ally(0, 4)", x -> x.ally(0, 4), -2);
        for (int wrong : WRONG) {
            refused("ally(" + wrong + ", 0)", x -> x.ally(wrong, 0), -2);
            refused("ally(0, " + wrong + ")", x -> x.ally(0, wrong), -2);
        }
        due("it does itself", fine("farms 2 moments 2;bit 0 to 0;bit 0 to 1;", 3).ally(0, 1), -1);
        due("by another one's help", fine("farms 2 moments 2;bit 0 to 0;bit 0 to 1;tells:bit=0 or farm=1;", 4).ally(0, 1), 1);
    }

    static void unlikeMoments() {
        sentence("Promise 33", "How many unlike MOMENTS are thought.");
        unchanged("tales()", x -> x.tales(), 2);
        due("a new one", new PartyLine().tales(), 1);
        PartyLine x = fine("farms 8 " + CHAIN + "hears:1=2;", 9);
        for (int f = 1; f < 8; f++) {
            for (int b = 0; b < f; b++) {
                x.tell(f, b);
            }
            due("farms up to " + f, x.tales(), f + 1);
        }
        x.tell(0, 0);
        due("two alike", x.tales(), 7);
    }

    static void howFewJoin() {
        sentence("Promise 34", "JOINING: how many BITS.");
        unchanged("joins(0, 1): at one", x -> x.joins(0, 1), 0);
        unchanged("joins(0, 2)", x -> x.joins(0, 2), 1);
        unchanged("joins(2, 0)", x -> x.joins(2, 0), 1);
        PartyLine x = fine("farms 2 " + CHAIN + "hears:1=2;", 9);
        for (int b = 0; b < 7; b++) {
            x.tell(1, b);
            due("so far apart", x.joins(0, 1), b + 1);
        }
        x = fine("farms 2 " + CHAIN, 8);
        x.cut(0);
        for (int b = 0; b < 6; b++) {
            x.tell(1, b);
        }
        x.cut(0);
        due("heard: by one", x.joins(0, 1), 1);
    }

    static void theyCannotJoin() {
        sentence("Promise 34", "NONE: they can't; -2: FARMS, both one.");
        unchanged("joins(1, 2): farm 1 may not, farm 2 can't", x -> x.joins(1, 2), -1);
        for (int f = 0; f < 4; f++) {
            int g = f;
            refused("both " + g, x -> x.joins(g, g), -2);
        }
        refused("joins(0, 3)", x -> x.joins(0, 3), -2);
        refused("joins(3, 0)", x -> x.joins(3, 0), -2);
        for (int wrong : WRONG) {
            refused("joins(" + wrong + ", 0)", x -> x.joins(wrong, 0), -2);
            refused("joins(0, " + wrong + ")", x -> x.joins(0, wrong), -2);
        }
        due("joins(2, 1)", Scene.lived().joins(2, 1), -1);
        PartyLine x = fine("farms 2 moments 8;bit 0 to 7;bit 0 to 1;bit 0 to 2;cut 0;", 5);
        x.tell(0, 1);
        x.tell(1, 2);
        x.cut(0);
        due("they hear each other, but no bit is from where they are", x.joins(0, 1), -1);
    }

    static void deedsThatJoin() {
        sentence("Promise 35", "The i-th DEED of it.");
        unchanged("joinBy(0, 2, 0)", x -> x.joinBy(0, 2, 0), 3);
        unchanged("joinBy(2, 0, 0)", x -> x.joinBy(2, 0, 0), 3);
        PartyLine x = fine("farms 8 " + CHAIN + "hears:1=2;", 9);
        for (int b = 0; b < 7; b++) {
            x.tell(3, b);
        }
        for (int i = 0; i < 7; i++) {
            due("joinBy(3, 7, " + i + ")", x.joinBy(3, 7, i), 700 + i);
        }
        due("behind the last", x.joinBy(3, 7, 7), -1);
    }

    static void noSuchDeed() {
        sentence("Promise 35", "NONE: not so many, they can't; -2 likewise; -3: i is below 0.");
        unchanged("joinBy(0, 2, 1): not so many", x -> x.joinBy(0, 2, 1), -1);
        unchanged("joinBy(0, 2, MAX)", x -> x.joinBy(0, 2, Integer.MAX_VALUE), -1);
        unchanged("joinBy(0, 1, 0): at one already", x -> x.joinBy(0, 1, 0), -1);
        unchanged("joinBy(1, 2, 0): they can't", x -> x.joinBy(1, 2, 0), -1);
        refused("joinBy(0, 2, -1)", x -> x.joinBy(0, 2, -1), -3);
        refused("joinBy(0, 2, MIN)", x -> x.joinBy(0, 2, Integer.MIN_VALUE), -3);
        refused("joinBy(1, 2, -1): ahead of NONE", x -> x.joinBy(1, 2, -1), -3);
        refused("joinBy(1, 1, -1): ahead of -3", x -> x.joinBy(1, 1, -1), -2);
        refused("joinBy(0, 0, 0)", x -> x.joinBy(0, 0, 0), -2);
        refused("joinBy(0, 3, 0)", x -> x.joinBy(0, 3, 0), -2);
        refused("joinBy(3, 0, 0)", x -> x.joinBy(3, 0, 0), -2);
        for (int wrong : WRONG) {
            refused("joinBy(" + wrong + ", 0, 0)", x -> x.joinBy(wrong, 0, 0), -2);
            refused("joinBy(0, " + wrong + ", 0)", x -> x.joinBy(0, wrong, 0), -2);
        }
    }
}
